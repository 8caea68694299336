theorem dX0_tell_0 : decode cX0_tell 0 = .ok (.iconst (-1), 1) := by decide +kernel
theorem dX0_tell_1 : decode cX0_tell 1 = .ok (.iload_n 1, 1) := by decide +kernel
theorem dX0_tell_2 : decode cX0_tell 2 = .ok (.isub, 1) := by decide +kernel
theorem dX0_tell_3 : decode cX0_tell 3 = .ok (.istore_n 3, 1) := by decide +kernel
theorem dX0_tell_4 : decode cX0_tell 4 = .ok (.iload_n 3, 1) := by decide +kernel
theorem dX0_tell_5 : decode cX0_tell 5 = .ok (.ifCond .lt 15, 3) := by decide +kernel
theorem dX0_tell_8 : decode cX0_tell 8 = .ok (.iload_n 3, 1) := by decide +kernel
theorem dX0_tell_9 : decode cX0_tell 9 = .ok (.iconst 5, 1) := by decide +kernel
theorem dX0_tell_10 : decode cX0_tell 10 = .ok (.if_icmp .ge 10, 3) := by decide +kernel
theorem dX0_tell_13 : decode cX0_tell 13 = .ok (.aload_n 0, 1) := by decide +kernel
theorem dX0_tell_14 : decode cX0_tell 14 = .ok (.getfield 13, 3) := by decide +kernel
theorem dX0_tell_17 : decode cX0_tell 17 = .ok (.iload_n 3, 1) := by decide +kernel
theorem dX0_tell_18 : decode cX0_tell 18 = .ok (.iload_n 2, 1) := by decide +kernel
theorem dX0_tell_19 : decode cX0_tell 19 = .ok (.iastore, 1) := by decide +kernel
theorem dX0_tell_20 : decode cX0_tell 20 = .ok (.return_, 1) := by decide +kernel
theorem dX0_firstLaw_0 : decode cX0_firstLaw 0 = .ok (.iconst 0, 1) := by decide +kernel
theorem dX0_firstLaw_1 : decode cX0_firstLaw 1 = .ok (.istore_n 2, 1) := by decide +kernel
theorem dX0_firstLaw_2 : decode cX0_firstLaw 2 = .ok (.iload_n 2, 1) := by decide +kernel
theorem dX0_firstLaw_3 : decode cX0_firstLaw 3 = .ok (.aload_n 1, 1) := by decide +kernel
theorem dX0_firstLaw_4 : decode cX0_firstLaw 4 = .ok (.getfield 20, 3) := by decide +kernel
theorem dX0_firstLaw_7 : decode cX0_firstLaw 7 = .ok (.getfield 26, 3) := by decide +kernel
theorem dX0_firstLaw_10 : decode cX0_firstLaw 10 = .ok (.if_icmp .ge 59, 3) := by decide +kernel
theorem dX0_firstLaw_13 : decode cX0_firstLaw 13 = .ok (.aload_n 1, 1) := by decide +kernel
theorem dX0_firstLaw_14 : decode cX0_firstLaw 14 = .ok (.getfield 20, 3) := by decide +kernel
theorem dX0_firstLaw_17 : decode cX0_firstLaw 17 = .ok (.iload_n 2, 1) := by decide +kernel
theorem dX0_firstLaw_18 : decode cX0_firstLaw 18 = .ok (.iconst 1, 1) := by decide +kernel
theorem dX0_firstLaw_19 : decode cX0_firstLaw 19 = .ok (.invokevirtual 29, 3) := by decide +kernel
theorem dX0_firstLaw_22 : decode cX0_firstLaw 22 = .ok (.istore_n 3, 1) := by decide +kernel
theorem dX0_firstLaw_23 : decode cX0_firstLaw 23 = .ok (.aload_n 0, 1) := by decide +kernel
theorem dX0_firstLaw_24 : decode cX0_firstLaw 24 = .ok (.aload_n 1, 1) := by decide +kernel
theorem dX0_firstLaw_25 : decode cX0_firstLaw 25 = .ok (.getfield 33, 3) := by decide +kernel
theorem dX0_firstLaw_28 : decode cX0_firstLaw 28 = .ok (.iload_n 3, 1) := by decide +kernel
theorem dX0_firstLaw_29 : decode cX0_firstLaw 29 = .ok (.aload_n 1, 1) := by decide +kernel
theorem dX0_firstLaw_30 : decode cX0_firstLaw 30 = .ok (.getfield 20, 3) := by decide +kernel
theorem dX0_firstLaw_33 : decode cX0_firstLaw 33 = .ok (.iload_n 2, 1) := by decide +kernel
theorem dX0_firstLaw_34 : decode cX0_firstLaw 34 = .ok (.iconst 2, 1) := by decide +kernel
theorem dX0_firstLaw_35 : decode cX0_firstLaw 35 = .ok (.invokevirtual 29, 3) := by decide +kernel
theorem dX0_firstLaw_38 : decode cX0_firstLaw 38 = .ok (.invokevirtual 36, 3) := by decide +kernel
theorem dX0_firstLaw_41 : decode cX0_firstLaw 41 = .ok (.ifCond .eq 22, 3) := by decide +kernel
theorem dX0_firstLaw_44 : decode cX0_firstLaw 44 = .ok (.aload_n 0, 1) := by decide +kernel
theorem dX0_firstLaw_45 : decode cX0_firstLaw 45 = .ok (.aload_n 1, 1) := by decide +kernel
theorem dX0_firstLaw_46 : decode cX0_firstLaw 46 = .ok (.getfield 33, 3) := by decide +kernel
theorem dX0_firstLaw_49 : decode cX0_firstLaw 49 = .ok (.aload_n 1, 1) := by decide +kernel
theorem dX0_firstLaw_50 : decode cX0_firstLaw 50 = .ok (.getfield 20, 3) := by decide +kernel
theorem dX0_firstLaw_53 : decode cX0_firstLaw 53 = .ok (.iload_n 2, 1) := by decide +kernel
theorem dX0_firstLaw_54 : decode cX0_firstLaw 54 = .ok (.iconst 0, 1) := by decide +kernel
theorem dX0_firstLaw_55 : decode cX0_firstLaw 55 = .ok (.invokevirtual 29, 3) := by decide +kernel
theorem dX0_firstLaw_58 : decode cX0_firstLaw 58 = .ok (.iload_n 3, 1) := by decide +kernel
theorem dX0_firstLaw_59 : decode cX0_firstLaw 59 = .ok (.invokevirtual 36, 3) := by decide +kernel
theorem dX0_firstLaw_62 : decode cX0_firstLaw 62 = .ok (.ireturn, 1) := by decide +kernel
theorem dX0_firstLaw_63 : decode cX0_firstLaw 63 = .ok (.iinc 2 1, 3) := by decide +kernel
theorem dX0_firstLaw_66 : decode cX0_firstLaw 66 = .ok (.goto (-64), 3) := by decide +kernel
theorem dX0_firstLaw_69 : decode cX0_firstLaw 69 = .ok (.iconst 0, 1) := by decide +kernel
theorem dX0_firstLaw_70 : decode cX0_firstLaw 70 = .ok (.ireturn, 1) := by decide +kernel
theorem dX0_run_0 : decode cX0_run 0 = .ok (.aload_n 0, 1) := by decide +kernel
theorem dX0_run_1 : decode cX0_run 1 = .ok (.iconst 0, 1) := by decide +kernel
theorem dX0_run_2 : decode cX0_run 2 = .ok (.putfield 16, 3) := by decide +kernel
theorem dX0_run_5 : decode cX0_run 5 = .ok (.iconst 0, 1) := by decide +kernel
theorem dX0_run_6 : decode cX0_run 6 = .ok (.iload_n 2, 1) := by decide +kernel
theorem dX0_run_7 : decode cX0_run 7 = .ok (.invokestatic 40, 3) := by decide +kernel
theorem dX0_run_10 : decode cX0_run 10 = .ok (.istore 4, 2) := by decide +kernel
theorem dX0_run_12 : decode cX0_run 12 = .ok (.iload 4, 2) := by decide +kernel
theorem dX0_run_14 : decode cX0_run 14 = .ok (.iload_n 3, 1) := by decide +kernel
theorem dX0_run_15 : decode cX0_run 15 = .ok (.if_icmp .ge 105, 3) := by decide +kernel
theorem dX0_run_18 : decode cX0_run 18 = .ok (.iload 4, 2) := by decide +kernel
theorem dX0_run_20 : decode cX0_run 20 = .ok (.aload_n 1, 1) := by decide +kernel
theorem dX0_run_21 : decode cX0_run 21 = .ok (.arraylength, 1) := by decide +kernel
theorem dX0_run_22 : decode cX0_run 22 = .ok (.if_icmp .ge 98, 3) := by decide +kernel
theorem dX0_run_25 : decode cX0_run 25 = .ok (.aload_n 1, 1) := by decide +kernel
theorem dX0_run_26 : decode cX0_run 26 = .ok (.iload 4, 2) := by decide +kernel
theorem dX0_run_28 : decode cX0_run 28 = .ok (.iaload, 1) := by decide +kernel
theorem dX0_run_29 : decode cX0_run 29 = .ok (.istore 5, 2) := by decide +kernel
theorem dX0_run_31 : decode cX0_run 31 = .ok (.iload 5, 2) := by decide +kernel
theorem dX0_run_33 : decode cX0_run 33 = .ok (.ifCond .lt 12, 3) := by decide +kernel
theorem dX0_run_36 : decode cX0_run 36 = .ok (.aload_n 0, 1) := by decide +kernel
theorem dX0_run_37 : decode cX0_run 37 = .ok (.iload 5, 2) := by decide +kernel
theorem dX0_run_39 : decode cX0_run 39 = .ok (.invokevirtual 45, 3) := by decide +kernel
theorem dX0_run_42 : decode cX0_run 42 = .ok (.goto 72, 3) := by decide +kernel
theorem dX0_run_45 : decode cX0_run 45 = .ok (.iload 5, 2) := by decide +kernel
theorem dX0_run_47 : decode cX0_run 47 = .ok (.bipush (-5), 2) := by decide +kernel
theorem dX0_run_49 : decode cX0_run 49 = .ok (.if_icmp .lt 19, 3) := by decide +kernel
theorem dX0_run_52 : decode cX0_run 52 = .ok (.aload_n 0, 1) := by decide +kernel
theorem dX0_run_53 : decode cX0_run 53 = .ok (.aload_n 0, 1) := by decide +kernel
theorem dX0_run_54 : decode cX0_run 54 = .ok (.getfield 13, 3) := by decide +kernel
theorem dX0_run_57 : decode cX0_run 57 = .ok (.iconst (-1), 1) := by decide +kernel
theorem dX0_run_58 : decode cX0_run 58 = .ok (.iload 5, 2) := by decide +kernel
theorem dX0_run_60 : decode cX0_run 60 = .ok (.isub, 1) := by decide +kernel
theorem dX0_run_61 : decode cX0_run 61 = .ok (.iaload, 1) := by decide +kernel
theorem dX0_run_62 : decode cX0_run 62 = .ok (.invokevirtual 45, 3) := by decide +kernel
theorem dX0_run_65 : decode cX0_run 65 = .ok (.goto 49, 3) := by decide +kernel
theorem dX0_run_68 : decode cX0_run 68 = .ok (.iload 5, 2) := by decide +kernel
theorem dX0_run_70 : decode cX0_run 70 = .ok (.bipush (-6), 2) := by decide +kernel
theorem dX0_run_72 : decode cX0_run 72 = .ok (.if_icmp .ne 16, 3) := by decide +kernel
theorem dX0_run_75 : decode cX0_run 75 = .ok (.aload_n 0, 1) := by decide +kernel
theorem dX0_run_76 : decode cX0_run 76 = .ok (.iconst 1, 1) := by decide +kernel
theorem dX0_run_77 : decode cX0_run 77 = .ok (.aload_n 0, 1) := by decide +kernel
theorem dX0_run_78 : decode cX0_run 78 = .ok (.invokevirtual 49, 3) := by decide +kernel
theorem dX0_run_81 : decode cX0_run 81 = .ok (.isub, 1) := by decide +kernel
theorem dX0_run_82 : decode cX0_run 82 = .ok (.invokevirtual 45, 3) := by decide +kernel
theorem dX0_run_85 : decode cX0_run 85 = .ok (.goto 29, 3) := by decide +kernel
theorem dX0_run_88 : decode cX0_run 88 = .ok (.aload_n 0, 1) := by decide +kernel
theorem dX0_run_89 : decode cX0_run 89 = .ok (.invokevirtual 49, 3) := by decide +kernel
theorem dX0_run_92 : decode cX0_run 92 = .ok (.istore 6, 2) := by decide +kernel
theorem dX0_run_94 : decode cX0_run 94 = .ok (.aload_n 0, 1) := by decide +kernel
theorem dX0_run_95 : decode cX0_run 95 = .ok (.iload 5, 2) := by decide +kernel
theorem dX0_run_97 : decode cX0_run 97 = .ok (.aload_n 0, 1) := by decide +kernel
theorem dX0_run_98 : decode cX0_run 98 = .ok (.invokevirtual 49, 3) := by decide +kernel
theorem dX0_run_101 : decode cX0_run 101 = .ok (.i2l, 1) := by decide +kernel
theorem dX0_run_102 : decode cX0_run 102 = .ok (.iload 6, 2) := by decide +kernel
theorem dX0_run_104 : decode cX0_run 104 = .ok (.i2l, 1) := by decide +kernel
theorem dX0_run_105 : decode cX0_run 105 = .ok (.invokestatic 53, 3) := by decide +kernel
theorem dX0_run_108 : decode cX0_run 108 = .ok (.invokestatic 57, 3) := by decide +kernel
theorem dX0_run_111 : decode cX0_run 111 = .ok (.invokevirtual 45, 3) := by decide +kernel
theorem dX0_run_114 : decode cX0_run 114 = .ok (.iinc 4 1, 3) := by decide +kernel
theorem dX0_run_117 : decode cX0_run 117 = .ok (.goto (-105), 3) := by decide +kernel
theorem dX0_run_120 : decode cX0_run 120 = .ok (.aload_n 0, 1) := by decide +kernel
theorem dX0_run_121 : decode cX0_run 121 = .ok (.invokevirtual 49, 3) := by decide +kernel
theorem dX0_run_124 : decode cX0_run 124 = .ok (.ireturn, 1) := by decide +kernel
theorem dX0_push_0 : decode cX0_push 0 = .ok (.aload_n 0, 1) := by decide +kernel
theorem dX0_push_1 : decode cX0_push 1 = .ok (.getfield 16, 3) := by decide +kernel
theorem dX0_push_4 : decode cX0_push 4 = .ok (.bipush 64, 2) := by decide +kernel
theorem dX0_push_6 : decode cX0_push 6 = .ok (.if_icmp .ge 23, 3) := by decide +kernel
theorem dX0_push_9 : decode cX0_push 9 = .ok (.aload_n 0, 1) := by decide +kernel
theorem dX0_push_10 : decode cX0_push 10 = .ok (.getfield 9, 3) := by decide +kernel
theorem dX0_push_13 : decode cX0_push 13 = .ok (.aload_n 0, 1) := by decide +kernel
theorem dX0_push_14 : decode cX0_push 14 = .ok (.getfield 16, 3) := by decide +kernel
theorem dX0_push_17 : decode cX0_push 17 = .ok (.iload_n 1, 1) := by decide +kernel
theorem dX0_push_18 : decode cX0_push 18 = .ok (.iastore, 1) := by decide +kernel
theorem dX0_push_19 : decode cX0_push 19 = .ok (.aload_n 0, 1) := by decide +kernel
theorem dX0_push_20 : decode cX0_push 20 = .ok (.dup, 1) := by decide +kernel
theorem dX0_push_21 : decode cX0_push 21 = .ok (.getfield 16, 3) := by decide +kernel
theorem dX0_push_24 : decode cX0_push 24 = .ok (.iconst 1, 1) := by decide +kernel
theorem dX0_push_25 : decode cX0_push 25 = .ok (.iadd, 1) := by decide +kernel
theorem dX0_push_26 : decode cX0_push 26 = .ok (.putfield 16, 3) := by decide +kernel
theorem dX0_push_29 : decode cX0_push 29 = .ok (.return_, 1) := by decide +kernel
theorem dX0_pop_0 : decode cX0_pop 0 = .ok (.aload_n 0, 1) := by decide +kernel
theorem dX0_pop_1 : decode cX0_pop 1 = .ok (.getfield 16, 3) := by decide +kernel
theorem dX0_pop_4 : decode cX0_pop 4 = .ok (.ifCond .gt 5, 3) := by decide +kernel
theorem dX0_pop_7 : decode cX0_pop 7 = .ok (.iconst 0, 1) := by decide +kernel
theorem dX0_pop_8 : decode cX0_pop 8 = .ok (.ireturn, 1) := by decide +kernel
theorem dX0_pop_9 : decode cX0_pop 9 = .ok (.aload_n 0, 1) := by decide +kernel
theorem dX0_pop_10 : decode cX0_pop 10 = .ok (.dup, 1) := by decide +kernel
theorem dX0_pop_11 : decode cX0_pop 11 = .ok (.getfield 16, 3) := by decide +kernel
theorem dX0_pop_14 : decode cX0_pop 14 = .ok (.iconst 1, 1) := by decide +kernel
theorem dX0_pop_15 : decode cX0_pop 15 = .ok (.isub, 1) := by decide +kernel
theorem dX0_pop_16 : decode cX0_pop 16 = .ok (.putfield 16, 3) := by decide +kernel
theorem dX0_pop_19 : decode cX0_pop 19 = .ok (.aload_n 0, 1) := by decide +kernel
theorem dX0_pop_20 : decode cX0_pop 20 = .ok (.getfield 9, 3) := by decide +kernel
theorem dX0_pop_23 : decode cX0_pop 23 = .ok (.aload_n 0, 1) := by decide +kernel
theorem dX0_pop_24 : decode cX0_pop 24 = .ok (.getfield 16, 3) := by decide +kernel
theorem dX0_pop_27 : decode cX0_pop 27 = .ok (.iaload, 1) := by decide +kernel
theorem dX0_pop_28 : decode cX0_pop 28 = .ok (.ireturn, 1) := by decide +kernel
theorem dX0_joined_0 : decode cX0_joined 0 = .ok (.iload_n 0, 1) := by decide +kernel
theorem dX0_joined_1 : decode cX0_joined 1 = .ok (.tableswitch 163 (-18) (-7) #[157, 151, 135, 119, 115, 111, 107, 95, 83, 71, 67, 63], 63) := by decide +kernel
theorem dX0_joined_64 : decode cX0_joined 64 = .ok (.lload_n 1, 1) := by decide +kernel
theorem dX0_joined_65 : decode cX0_joined 65 = .ok (.lload_n 3, 1) := by decide +kernel
theorem dX0_joined_66 : decode cX0_joined 66 = .ok (.lor, 1) := by decide +kernel
theorem dX0_joined_67 : decode cX0_joined 67 = .ok (.lreturn, 1) := by decide +kernel
theorem dX0_joined_68 : decode cX0_joined 68 = .ok (.lload_n 1, 1) := by decide +kernel
theorem dX0_joined_69 : decode cX0_joined 69 = .ok (.lload_n 3, 1) := by decide +kernel
theorem dX0_joined_70 : decode cX0_joined 70 = .ok (.land, 1) := by decide +kernel
theorem dX0_joined_71 : decode cX0_joined 71 = .ok (.lreturn, 1) := by decide +kernel
theorem dX0_joined_72 : decode cX0_joined 72 = .ok (.lload_n 1, 1) := by decide +kernel
theorem dX0_joined_73 : decode cX0_joined 73 = .ok (.lload_n 3, 1) := by decide +kernel
theorem dX0_joined_74 : decode cX0_joined 74 = .ok (.lcmp, 1) := by decide +kernel
theorem dX0_joined_75 : decode cX0_joined 75 = .ok (.ifCond .ge 7, 3) := by decide +kernel
theorem dX0_joined_78 : decode cX0_joined 78 = .ok (.lconst 1, 1) := by decide +kernel
theorem dX0_joined_79 : decode cX0_joined 79 = .ok (.goto 4, 3) := by decide +kernel
theorem dX0_joined_82 : decode cX0_joined 82 = .ok (.lconst 0, 1) := by decide +kernel
theorem dX0_joined_83 : decode cX0_joined 83 = .ok (.lreturn, 1) := by decide +kernel
theorem dX0_joined_84 : decode cX0_joined 84 = .ok (.lload_n 1, 1) := by decide +kernel
theorem dX0_joined_85 : decode cX0_joined 85 = .ok (.lload_n 3, 1) := by decide +kernel
theorem dX0_joined_86 : decode cX0_joined 86 = .ok (.lcmp, 1) := by decide +kernel
theorem dX0_joined_87 : decode cX0_joined 87 = .ok (.ifCond .le 7, 3) := by decide +kernel
theorem dX0_joined_90 : decode cX0_joined 90 = .ok (.lconst 1, 1) := by decide +kernel
theorem dX0_joined_91 : decode cX0_joined 91 = .ok (.goto 4, 3) := by decide +kernel
theorem dX0_joined_94 : decode cX0_joined 94 = .ok (.lconst 0, 1) := by decide +kernel
theorem dX0_joined_95 : decode cX0_joined 95 = .ok (.lreturn, 1) := by decide +kernel
theorem dX0_joined_96 : decode cX0_joined 96 = .ok (.lload_n 1, 1) := by decide +kernel
theorem dX0_joined_97 : decode cX0_joined 97 = .ok (.lload_n 3, 1) := by decide +kernel
theorem dX0_joined_98 : decode cX0_joined 98 = .ok (.lcmp, 1) := by decide +kernel
theorem dX0_joined_99 : decode cX0_joined 99 = .ok (.ifCond .ne 7, 3) := by decide +kernel
theorem dX0_joined_102 : decode cX0_joined 102 = .ok (.lconst 1, 1) := by decide +kernel
theorem dX0_joined_103 : decode cX0_joined 103 = .ok (.goto 4, 3) := by decide +kernel
theorem dX0_joined_106 : decode cX0_joined 106 = .ok (.lconst 0, 1) := by decide +kernel
theorem dX0_joined_107 : decode cX0_joined 107 = .ok (.lreturn, 1) := by decide +kernel
theorem dX0_joined_108 : decode cX0_joined 108 = .ok (.lload_n 1, 1) := by decide +kernel
theorem dX0_joined_109 : decode cX0_joined 109 = .ok (.lload_n 3, 1) := by decide +kernel
theorem dX0_joined_110 : decode cX0_joined 110 = .ok (.ladd, 1) := by decide +kernel
theorem dX0_joined_111 : decode cX0_joined 111 = .ok (.lreturn, 1) := by decide +kernel
theorem dX0_joined_112 : decode cX0_joined 112 = .ok (.lload_n 1, 1) := by decide +kernel
theorem dX0_joined_113 : decode cX0_joined 113 = .ok (.lload_n 3, 1) := by decide +kernel
theorem dX0_joined_114 : decode cX0_joined 114 = .ok (.lsub, 1) := by decide +kernel
theorem dX0_joined_115 : decode cX0_joined 115 = .ok (.lreturn, 1) := by decide +kernel
theorem dX0_joined_116 : decode cX0_joined 116 = .ok (.lload_n 1, 1) := by decide +kernel
theorem dX0_joined_117 : decode cX0_joined 117 = .ok (.lload_n 3, 1) := by decide +kernel
theorem dX0_joined_118 : decode cX0_joined 118 = .ok (.lmul, 1) := by decide +kernel
theorem dX0_joined_119 : decode cX0_joined 119 = .ok (.lreturn, 1) := by decide +kernel
theorem dX0_joined_120 : decode cX0_joined 120 = .ok (.lload_n 3, 1) := by decide +kernel
theorem dX0_joined_121 : decode cX0_joined 121 = .ok (.lconst 0, 1) := by decide +kernel
theorem dX0_joined_122 : decode cX0_joined 122 = .ok (.lcmp, 1) := by decide +kernel
theorem dX0_joined_123 : decode cX0_joined 123 = .ok (.ifCond .ne 7, 3) := by decide +kernel
theorem dX0_joined_126 : decode cX0_joined 126 = .ok (.lconst 0, 1) := by decide +kernel
theorem dX0_joined_127 : decode cX0_joined 127 = .ok (.goto 8, 3) := by decide +kernel
theorem dX0_joined_130 : decode cX0_joined 130 = .ok (.lload_n 1, 1) := by decide +kernel
theorem dX0_joined_131 : decode cX0_joined 131 = .ok (.lload_n 3, 1) := by decide +kernel
theorem dX0_joined_132 : decode cX0_joined 132 = .ok (.invokestatic 61, 3) := by decide +kernel
theorem dX0_joined_135 : decode cX0_joined 135 = .ok (.lreturn, 1) := by decide +kernel
theorem dX0_joined_136 : decode cX0_joined 136 = .ok (.lload_n 3, 1) := by decide +kernel
theorem dX0_joined_137 : decode cX0_joined 137 = .ok (.lconst 0, 1) := by decide +kernel
theorem dX0_joined_138 : decode cX0_joined 138 = .ok (.lcmp, 1) := by decide +kernel
theorem dX0_joined_139 : decode cX0_joined 139 = .ok (.ifCond .ne 7, 3) := by decide +kernel
theorem dX0_joined_142 : decode cX0_joined 142 = .ok (.lconst 0, 1) := by decide +kernel
theorem dX0_joined_143 : decode cX0_joined 143 = .ok (.goto 8, 3) := by decide +kernel
theorem dX0_joined_146 : decode cX0_joined 146 = .ok (.lload_n 1, 1) := by decide +kernel
theorem dX0_joined_147 : decode cX0_joined 147 = .ok (.lload_n 3, 1) := by decide +kernel
theorem dX0_joined_148 : decode cX0_joined 148 = .ok (.invokestatic 65, 3) := by decide +kernel
theorem dX0_joined_151 : decode cX0_joined 151 = .ok (.lreturn, 1) := by decide +kernel
theorem dX0_joined_152 : decode cX0_joined 152 = .ok (.lload_n 1, 1) := by decide +kernel
theorem dX0_joined_153 : decode cX0_joined 153 = .ok (.lload_n 3, 1) := by decide +kernel
theorem dX0_joined_154 : decode cX0_joined 154 = .ok (.invokestatic 68, 3) := by decide +kernel
theorem dX0_joined_157 : decode cX0_joined 157 = .ok (.lreturn, 1) := by decide +kernel
theorem dX0_joined_158 : decode cX0_joined 158 = .ok (.lload_n 1, 1) := by decide +kernel
theorem dX0_joined_159 : decode cX0_joined 159 = .ok (.lload_n 3, 1) := by decide +kernel
theorem dX0_joined_160 : decode cX0_joined 160 = .ok (.invokestatic 71, 3) := by decide +kernel
theorem dX0_joined_163 : decode cX0_joined 163 = .ok (.lreturn, 1) := by decide +kernel
theorem dX0_joined_164 : decode cX0_joined 164 = .ok (.lconst 0, 1) := by decide +kernel
theorem dX0_joined_165 : decode cX0_joined 165 = .ok (.lreturn, 1) := by decide +kernel
theorem dX0_held_0 : decode cX0_held 0 = .ok (.ldc2_w 73, 3) := by decide +kernel
theorem dX0_held_3 : decode cX0_held 3 = .ok (.ldc2_w 75, 3) := by decide +kernel
theorem dX0_held_6 : decode cX0_held 6 = .ok (.lload_n 0, 1) := by decide +kernel
theorem dX0_held_7 : decode cX0_held 7 = .ok (.invokestatic 68, 3) := by decide +kernel
theorem dX0_held_10 : decode cX0_held 10 = .ok (.invokestatic 71, 3) := by decide +kernel
theorem dX0_held_13 : decode cX0_held 13 = .ok (.l2i, 1) := by decide +kernel
theorem dX0_held_14 : decode cX0_held 14 = .ok (.ireturn, 1) := by decide +kernel
theorem dX1_forget_0 : decode cX1_forget 0 = .ok (.aload_n 0, 1) := by decide +kernel
theorem dX1_forget_1 : decode cX1_forget 1 = .ok (.getfield 24, 3) := by decide +kernel
theorem dX1_forget_4 : decode cX1_forget 4 = .ok (.invokevirtual 39, 3) := by decide +kernel
theorem dX1_forget_7 : decode cX1_forget 7 = .ok (.aload_n 0, 1) := by decide +kernel
theorem dX1_forget_8 : decode cX1_forget 8 = .ok (.getfield 31, 3) := by decide +kernel
theorem dX1_forget_11 : decode cX1_forget 11 = .ok (.iconst 0, 1) := by decide +kernel
theorem dX1_forget_12 : decode cX1_forget 12 = .ok (.putfield 42, 3) := by decide +kernel
theorem dX1_forget_15 : decode cX1_forget 15 = .ok (.return_, 1) := by decide +kernel
theorem dX1_note_0 : decode cX1_note 0 = .ok (.aload_n 0, 1) := by decide +kernel
theorem dX1_note_1 : decode cX1_note 1 = .ok (.getfield 24, 3) := by decide +kernel
theorem dX1_note_4 : decode cX1_note 4 = .ok (.invokevirtual 46, 3) := by decide +kernel
theorem dX1_note_7 : decode cX1_note 7 = .ok (.aload_n 0, 1) := by decide +kernel
theorem dX1_note_8 : decode cX1_note 8 = .ok (.getfield 24, 3) := by decide +kernel
theorem dX1_note_11 : decode cX1_note 11 = .ok (.iconst 0, 1) := by decide +kernel
theorem dX1_note_12 : decode cX1_note 12 = .ok (.aload_n 0, 1) := by decide +kernel
theorem dX1_note_13 : decode cX1_note 13 = .ok (.getfield 9, 3) := by decide +kernel
theorem dX1_note_16 : decode cX1_note 16 = .ok (.getfield 49, 3) := by decide +kernel
theorem dX1_note_19 : decode cX1_note 19 = .ok (.invokevirtual 54, 3) := by decide +kernel
theorem dX1_note_22 : decode cX1_note 22 = .ok (.aload_n 0, 1) := by decide +kernel
theorem dX1_note_23 : decode cX1_note 23 = .ok (.getfield 24, 3) := by decide +kernel
theorem dX1_note_26 : decode cX1_note 26 = .ok (.iconst 1, 1) := by decide +kernel
theorem dX1_note_27 : decode cX1_note 27 = .ok (.iload_n 1, 1) := by decide +kernel
theorem dX1_note_28 : decode cX1_note 28 = .ok (.invokevirtual 54, 3) := by decide +kernel
theorem dX1_note_31 : decode cX1_note 31 = .ok (.aload_n 0, 1) := by decide +kernel
theorem dX1_note_32 : decode cX1_note 32 = .ok (.getfield 24, 3) := by decide +kernel
theorem dX1_note_35 : decode cX1_note 35 = .ok (.iconst 2, 1) := by decide +kernel
theorem dX1_note_36 : decode cX1_note 36 = .ok (.iload_n 2, 1) := by decide +kernel
theorem dX1_note_37 : decode cX1_note 37 = .ok (.invokevirtual 54, 3) := by decide +kernel
theorem dX1_note_40 : decode cX1_note 40 = .ok (.aload_n 0, 1) := by decide +kernel
theorem dX1_note_41 : decode cX1_note 41 = .ok (.getfield 24, 3) := by decide +kernel
theorem dX1_note_44 : decode cX1_note 44 = .ok (.iconst 3, 1) := by decide +kernel
theorem dX1_note_45 : decode cX1_note 45 = .ok (.iload_n 3, 1) := by decide +kernel
theorem dX1_note_46 : decode cX1_note 46 = .ok (.invokevirtual 54, 3) := by decide +kernel
theorem dX1_note_49 : decode cX1_note 49 = .ok (.aload_n 0, 1) := by decide +kernel
theorem dX1_note_50 : decode cX1_note 50 = .ok (.getfield 24, 3) := by decide +kernel
theorem dX1_note_53 : decode cX1_note 53 = .ok (.iconst 4, 1) := by decide +kernel
theorem dX1_note_54 : decode cX1_note 54 = .ok (.iload 4, 2) := by decide +kernel
theorem dX1_note_56 : decode cX1_note 56 = .ok (.invokevirtual 54, 3) := by decide +kernel
theorem dX1_note_59 : decode cX1_note 59 = .ok (.return_, 1) := by decide +kernel
theorem dX1_makeTitle_0 : decode cX1_makeTitle 0 = .ok (.aload_n 0, 1) := by decide +kernel
theorem dX1_makeTitle_1 : decode cX1_makeTitle 1 = .ok (.getfield 9, 3) := by decide +kernel
theorem dX1_makeTitle_4 : decode cX1_makeTitle 4 = .ok (.iload_n 1, 1) := by decide +kernel
theorem dX1_makeTitle_5 : decode cX1_makeTitle 5 = .ok (.iload_n 2, 1) := by decide +kernel
theorem dX1_makeTitle_6 : decode cX1_makeTitle 6 = .ok (.invokevirtual 57, 3) := by decide +kernel
theorem dX1_makeTitle_9 : decode cX1_makeTitle 9 = .ok (.istore_n 3, 1) := by decide +kernel
theorem dX1_makeTitle_10 : decode cX1_makeTitle 10 = .ok (.iload_n 3, 1) := by decide +kernel
theorem dX1_makeTitle_11 : decode cX1_makeTitle 11 = .ok (.iconst (-1), 1) := by decide +kernel
theorem dX1_makeTitle_12 : decode cX1_makeTitle 12 = .ok (.if_icmp .ne 5, 3) := by decide +kernel
theorem dX1_makeTitle_15 : decode cX1_makeTitle 15 = .ok (.iconst (-1), 1) := by decide +kernel
theorem dX1_makeTitle_16 : decode cX1_makeTitle 16 = .ok (.ireturn, 1) := by decide +kernel
theorem dX1_makeTitle_17 : decode cX1_makeTitle 17 = .ok (.aload_n 0, 1) := by decide +kernel
theorem dX1_makeTitle_18 : decode cX1_makeTitle 18 = .ok (.getfield 9, 3) := by decide +kernel
theorem dX1_makeTitle_21 : decode cX1_makeTitle 21 = .ok (.iload_n 2, 1) := by decide +kernel
theorem dX1_makeTitle_22 : decode cX1_makeTitle 22 = .ok (.iload_n 1, 1) := by decide +kernel
theorem dX1_makeTitle_23 : decode cX1_makeTitle 23 = .ok (.invokevirtual 61, 3) := by decide +kernel
theorem dX1_makeTitle_26 : decode cX1_makeTitle 26 = .ok (.aload_n 0, 1) := by decide +kernel
theorem dX1_makeTitle_27 : decode cX1_makeTitle 27 = .ok (.getfield 9, 3) := by decide +kernel
theorem dX1_makeTitle_30 : decode cX1_makeTitle 30 = .ok (.iload_n 1, 1) := by decide +kernel
theorem dX1_makeTitle_31 : decode cX1_makeTitle 31 = .ok (.iload_n 2, 1) := by decide +kernel
theorem dX1_makeTitle_32 : decode cX1_makeTitle 32 = .ok (.invokevirtual 64, 3) := by decide +kernel
theorem dX1_makeTitle_35 : decode cX1_makeTitle 35 = .ok (.aload_n 0, 1) := by decide +kernel
theorem dX1_makeTitle_36 : decode cX1_makeTitle 36 = .ok (.iconst 0, 1) := by decide +kernel
theorem dX1_makeTitle_37 : decode cX1_makeTitle 37 = .ok (.iload_n 1, 1) := by decide +kernel
theorem dX1_makeTitle_38 : decode cX1_makeTitle 38 = .ok (.iconst (-1), 1) := by decide +kernel
theorem dX1_makeTitle_39 : decode cX1_makeTitle 39 = .ok (.iload_n 3, 1) := by decide +kernel
theorem dX1_makeTitle_40 : decode cX1_makeTitle 40 = .ok (.invokevirtual 67, 3) := by decide +kernel
theorem dX1_makeTitle_43 : decode cX1_makeTitle 43 = .ok (.aload_n 0, 1) := by decide +kernel
theorem dX1_makeTitle_44 : decode cX1_makeTitle 44 = .ok (.getfield 9, 3) := by decide +kernel
theorem dX1_makeTitle_47 : decode cX1_makeTitle 47 = .ok (.iload_n 1, 1) := by decide +kernel
theorem dX1_makeTitle_48 : decode cX1_makeTitle 48 = .ok (.invokevirtual 71, 3) := by decide +kernel
theorem dX1_makeTitle_51 : decode cX1_makeTitle 51 = .ok (.ireturn, 1) := by decide +kernel
theorem dX1_dropTitle_0 : decode cX1_dropTitle 0 = .ok (.aload_n 0, 1) := by decide +kernel
theorem dX1_dropTitle_1 : decode cX1_dropTitle 1 = .ok (.getfield 9, 3) := by decide +kernel
theorem dX1_dropTitle_4 : decode cX1_dropTitle 4 = .ok (.iload_n 1, 1) := by decide +kernel
theorem dX1_dropTitle_5 : decode cX1_dropTitle 5 = .ok (.iload_n 2, 1) := by decide +kernel
theorem dX1_dropTitle_6 : decode cX1_dropTitle 6 = .ok (.invokevirtual 75, 3) := by decide +kernel
theorem dX1_dropTitle_9 : decode cX1_dropTitle 9 = .ok (.ifCond .ne 5, 3) := by decide +kernel
theorem dX1_dropTitle_12 : decode cX1_dropTitle 12 = .ok (.iconst (-1), 1) := by decide +kernel
theorem dX1_dropTitle_13 : decode cX1_dropTitle 13 = .ok (.ireturn, 1) := by decide +kernel
theorem dX1_dropTitle_14 : decode cX1_dropTitle 14 = .ok (.aload_n 0, 1) := by decide +kernel
theorem dX1_dropTitle_15 : decode cX1_dropTitle 15 = .ok (.getfield 9, 3) := by decide +kernel
theorem dX1_dropTitle_18 : decode cX1_dropTitle 18 = .ok (.iload_n 1, 1) := by decide +kernel
theorem dX1_dropTitle_19 : decode cX1_dropTitle 19 = .ok (.iload_n 2, 1) := by decide +kernel
theorem dX1_dropTitle_20 : decode cX1_dropTitle 20 = .ok (.invokevirtual 79, 3) := by decide +kernel
theorem dX1_dropTitle_23 : decode cX1_dropTitle 23 = .ok (.aload_n 0, 1) := by decide +kernel
theorem dX1_dropTitle_24 : decode cX1_dropTitle 24 = .ok (.getfield 9, 3) := by decide +kernel
theorem dX1_dropTitle_27 : decode cX1_dropTitle 27 = .ok (.iload_n 2, 1) := by decide +kernel
theorem dX1_dropTitle_28 : decode cX1_dropTitle 28 = .ok (.bipush 8, 2) := by decide +kernel
theorem dX1_dropTitle_30 : decode cX1_dropTitle 30 = .ok (.invokevirtual 82, 3) := by decide +kernel
theorem dX1_dropTitle_33 : decode cX1_dropTitle 33 = .ok (.aload_n 0, 1) := by decide +kernel
theorem dX1_dropTitle_34 : decode cX1_dropTitle 34 = .ok (.iconst 1, 1) := by decide +kernel
theorem dX1_dropTitle_35 : decode cX1_dropTitle 35 = .ok (.iload_n 1, 1) := by decide +kernel
theorem dX1_dropTitle_36 : decode cX1_dropTitle 36 = .ok (.iconst (-1), 1) := by decide +kernel
theorem dX1_dropTitle_37 : decode cX1_dropTitle 37 = .ok (.aload_n 0, 1) := by decide +kernel
theorem dX1_dropTitle_38 : decode cX1_dropTitle 38 = .ok (.getfield 9, 3) := by decide +kernel
theorem dX1_dropTitle_41 : decode cX1_dropTitle 41 = .ok (.getfield 85, 3) := by decide +kernel
theorem dX1_dropTitle_44 : decode cX1_dropTitle 44 = .ok (.iload_n 2, 1) := by decide +kernel
theorem dX1_dropTitle_45 : decode cX1_dropTitle 45 = .ok (.invokevirtual 89, 3) := by decide +kernel
theorem dX1_dropTitle_48 : decode cX1_dropTitle 48 = .ok (.invokevirtual 67, 3) := by decide +kernel
theorem dX1_dropTitle_51 : decode cX1_dropTitle 51 = .ok (.aload_n 0, 1) := by decide +kernel
theorem dX1_dropTitle_52 : decode cX1_dropTitle 52 = .ok (.getfield 9, 3) := by decide +kernel
theorem dX1_dropTitle_55 : decode cX1_dropTitle 55 = .ok (.iload_n 1, 1) := by decide +kernel
theorem dX1_dropTitle_56 : decode cX1_dropTitle 56 = .ok (.invokevirtual 71, 3) := by decide +kernel
theorem dX1_dropTitle_59 : decode cX1_dropTitle 59 = .ok (.ireturn, 1) := by decide +kernel
theorem dX1_takeLetter_0 : decode cX1_takeLetter 0 = .ok (.aload_n 0, 1) := by decide +kernel
theorem dX1_takeLetter_1 : decode cX1_takeLetter 1 = .ok (.getfield 9, 3) := by decide +kernel
theorem dX1_takeLetter_4 : decode cX1_takeLetter 4 = .ok (.iload_n 1, 1) := by decide +kernel
theorem dX1_takeLetter_5 : decode cX1_takeLetter 5 = .ok (.invokevirtual 94, 3) := by decide +kernel
theorem dX1_takeLetter_8 : decode cX1_takeLetter 8 = .ok (.ifCond .eq 24, 3) := by decide +kernel
theorem dX1_takeLetter_11 : decode cX1_takeLetter 11 = .ok (.aload_n 0, 1) := by decide +kernel
theorem dX1_takeLetter_12 : decode cX1_takeLetter 12 = .ok (.getfield 9, 3) := by decide +kernel
theorem dX1_takeLetter_15 : decode cX1_takeLetter 15 = .ok (.iload_n 2, 1) := by decide +kernel
theorem dX1_takeLetter_16 : decode cX1_takeLetter 16 = .ok (.invokevirtual 94, 3) := by decide +kernel
theorem dX1_takeLetter_19 : decode cX1_takeLetter 19 = .ok (.ifCond .eq 13, 3) := by decide +kernel
theorem dX1_takeLetter_22 : decode cX1_takeLetter 22 = .ok (.iload_n 1, 1) := by decide +kernel
theorem dX1_takeLetter_23 : decode cX1_takeLetter 23 = .ok (.iload_n 2, 1) := by decide +kernel
theorem dX1_takeLetter_24 : decode cX1_takeLetter 24 = .ok (.if_icmp .eq 8, 3) := by decide +kernel
theorem dX1_takeLetter_27 : decode cX1_takeLetter 27 = .ok (.iload_n 3, 1) := by decide +kernel
theorem dX1_takeLetter_28 : decode cX1_takeLetter 28 = .ok (.iconst (-1), 1) := by decide +kernel
theorem dX1_takeLetter_29 : decode cX1_takeLetter 29 = .ok (.if_icmp .ne 5, 3) := by decide +kernel
theorem dX1_takeLetter_32 : decode cX1_takeLetter 32 = .ok (.iconst 0, 1) := by decide +kernel
theorem dX1_takeLetter_33 : decode cX1_takeLetter 33 = .ok (.ireturn, 1) := by decide +kernel
theorem dX1_takeLetter_34 : decode cX1_takeLetter 34 = .ok (.aload_n 0, 1) := by decide +kernel
theorem dX1_takeLetter_35 : decode cX1_takeLetter 35 = .ok (.getfield 9, 3) := by decide +kernel
theorem dX1_takeLetter_38 : decode cX1_takeLetter 38 = .ok (.iload_n 2, 1) := by decide +kernel
theorem dX1_takeLetter_39 : decode cX1_takeLetter 39 = .ok (.iload_n 3, 1) := by decide +kernel
theorem dX1_takeLetter_40 : decode cX1_takeLetter 40 = .ok (.invokevirtual 98, 3) := by decide +kernel
theorem dX1_takeLetter_43 : decode cX1_takeLetter 43 = .ok (.ifCond .gt 42, 3) := by decide +kernel
theorem dX1_takeLetter_46 : decode cX1_takeLetter 46 = .ok (.aload_n 0, 1) := by decide +kernel
theorem dX1_takeLetter_47 : decode cX1_takeLetter 47 = .ok (.getfield 9, 3) := by decide +kernel
theorem dX1_takeLetter_50 : decode cX1_takeLetter 50 = .ok (.iload_n 2, 1) := by decide +kernel
theorem dX1_takeLetter_51 : decode cX1_takeLetter 51 = .ok (.iload_n 3, 1) := by decide +kernel
theorem dX1_takeLetter_52 : decode cX1_takeLetter 52 = .ok (.invokevirtual 101, 3) := by decide +kernel
theorem dX1_takeLetter_55 : decode cX1_takeLetter 55 = .ok (.istore 4, 2) := by decide +kernel
theorem dX1_takeLetter_57 : decode cX1_takeLetter 57 = .ok (.iload 4, 2) := by decide +kernel
theorem dX1_takeLetter_59 : decode cX1_takeLetter 59 = .ok (.iconst (-1), 1) := by decide +kernel
theorem dX1_takeLetter_60 : decode cX1_takeLetter 60 = .ok (.if_icmp .ne 5, 3) := by decide +kernel
theorem dX1_takeLetter_63 : decode cX1_takeLetter 63 = .ok (.iconst 0, 1) := by decide +kernel
theorem dX1_takeLetter_64 : decode cX1_takeLetter 64 = .ok (.ireturn, 1) := by decide +kernel
theorem dX1_takeLetter_65 : decode cX1_takeLetter 65 = .ok (.aload_n 0, 1) := by decide +kernel
theorem dX1_takeLetter_66 : decode cX1_takeLetter 66 = .ok (.getfield 9, 3) := by decide +kernel
theorem dX1_takeLetter_69 : decode cX1_takeLetter 69 = .ok (.iload_n 2, 1) := by decide +kernel
theorem dX1_takeLetter_70 : decode cX1_takeLetter 70 = .ok (.iload 4, 2) := by decide +kernel
theorem dX1_takeLetter_72 : decode cX1_takeLetter 72 = .ok (.invokevirtual 79, 3) := by decide +kernel
theorem dX1_takeLetter_75 : decode cX1_takeLetter 75 = .ok (.aload_n 0, 1) := by decide +kernel
theorem dX1_takeLetter_76 : decode cX1_takeLetter 76 = .ok (.getfield 9, 3) := by decide +kernel
theorem dX1_takeLetter_79 : decode cX1_takeLetter 79 = .ok (.iload 4, 2) := by decide +kernel
theorem dX1_takeLetter_81 : decode cX1_takeLetter 81 = .ok (.iload_n 2, 1) := by decide +kernel
theorem dX1_takeLetter_82 : decode cX1_takeLetter 82 = .ok (.invokevirtual 82, 3) := by decide +kernel
theorem dX1_takeLetter_85 : decode cX1_takeLetter 85 = .ok (.aload_n 0, 1) := by decide +kernel
theorem dX1_takeLetter_86 : decode cX1_takeLetter 86 = .ok (.getfield 9, 3) := by decide +kernel
theorem dX1_takeLetter_89 : decode cX1_takeLetter 89 = .ok (.iload_n 2, 1) := by decide +kernel
theorem dX1_takeLetter_90 : decode cX1_takeLetter 90 = .ok (.iload_n 3, 1) := by decide +kernel
theorem dX1_takeLetter_91 : decode cX1_takeLetter 91 = .ok (.iconst (-1), 1) := by decide +kernel
theorem dX1_takeLetter_92 : decode cX1_takeLetter 92 = .ok (.invokevirtual 104, 3) := by decide +kernel
theorem dX1_takeLetter_95 : decode cX1_takeLetter 95 = .ok (.aload_n 0, 1) := by decide +kernel
theorem dX1_takeLetter_96 : decode cX1_takeLetter 96 = .ok (.getfield 9, 3) := by decide +kernel
theorem dX1_takeLetter_99 : decode cX1_takeLetter 99 = .ok (.iload_n 1, 1) := by decide +kernel
theorem dX1_takeLetter_100 : decode cX1_takeLetter 100 = .ok (.iload_n 3, 1) := by decide +kernel
theorem dX1_takeLetter_101 : decode cX1_takeLetter 101 = .ok (.iconst 1, 1) := by decide +kernel
theorem dX1_takeLetter_102 : decode cX1_takeLetter 102 = .ok (.invokevirtual 104, 3) := by decide +kernel
theorem dX1_takeLetter_105 : decode cX1_takeLetter 105 = .ok (.aload_n 0, 1) := by decide +kernel
theorem dX1_takeLetter_106 : decode cX1_takeLetter 106 = .ok (.iconst 2, 1) := by decide +kernel
theorem dX1_takeLetter_107 : decode cX1_takeLetter 107 = .ok (.iload_n 1, 1) := by decide +kernel
theorem dX1_takeLetter_108 : decode cX1_takeLetter 108 = .ok (.iload_n 2, 1) := by decide +kernel
theorem dX1_takeLetter_109 : decode cX1_takeLetter 109 = .ok (.aload_n 0, 1) := by decide +kernel
theorem dX1_takeLetter_110 : decode cX1_takeLetter 110 = .ok (.getfield 9, 3) := by decide +kernel
theorem dX1_takeLetter_113 : decode cX1_takeLetter 113 = .ok (.getfield 85, 3) := by decide +kernel
theorem dX1_takeLetter_116 : decode cX1_takeLetter 116 = .ok (.iload_n 3, 1) := by decide +kernel
theorem dX1_takeLetter_117 : decode cX1_takeLetter 117 = .ok (.invokevirtual 108, 3) := by decide +kernel
theorem dX1_takeLetter_120 : decode cX1_takeLetter 120 = .ok (.invokevirtual 67, 3) := by decide +kernel
theorem dX1_takeLetter_123 : decode cX1_takeLetter 123 = .ok (.iconst 1, 1) := by decide +kernel
theorem dX1_takeLetter_124 : decode cX1_takeLetter 124 = .ok (.ireturn, 1) := by decide +kernel
theorem dX1_swapLetters_0 : decode cX1_swapLetters 0 = .ok (.aload_n 0, 1) := by decide +kernel
theorem dX1_swapLetters_1 : decode cX1_swapLetters 1 = .ok (.getfield 9, 3) := by decide +kernel
theorem dX1_swapLetters_4 : decode cX1_swapLetters 4 = .ok (.iload_n 1, 1) := by decide +kernel
theorem dX1_swapLetters_5 : decode cX1_swapLetters 5 = .ok (.invokevirtual 94, 3) := by decide +kernel
theorem dX1_swapLetters_8 : decode cX1_swapLetters 8 = .ok (.ifCond .eq 61, 3) := by decide +kernel
theorem dX1_swapLetters_11 : decode cX1_swapLetters 11 = .ok (.aload_n 0, 1) := by decide +kernel
theorem dX1_swapLetters_12 : decode cX1_swapLetters 12 = .ok (.getfield 9, 3) := by decide +kernel
theorem dX1_swapLetters_15 : decode cX1_swapLetters 15 = .ok (.iload_n 3, 1) := by decide +kernel
theorem dX1_swapLetters_16 : decode cX1_swapLetters 16 = .ok (.invokevirtual 94, 3) := by decide +kernel
theorem dX1_swapLetters_19 : decode cX1_swapLetters 19 = .ok (.ifCond .eq 50, 3) := by decide +kernel
theorem dX1_swapLetters_22 : decode cX1_swapLetters 22 = .ok (.iload_n 1, 1) := by decide +kernel
theorem dX1_swapLetters_23 : decode cX1_swapLetters 23 = .ok (.iload_n 3, 1) := by decide +kernel
theorem dX1_swapLetters_24 : decode cX1_swapLetters 24 = .ok (.if_icmp .eq 45, 3) := by decide +kernel
theorem dX1_swapLetters_27 : decode cX1_swapLetters 27 = .ok (.iload_n 2, 1) := by decide +kernel
theorem dX1_swapLetters_28 : decode cX1_swapLetters 28 = .ok (.iconst (-1), 1) := by decide +kernel
theorem dX1_swapLetters_29 : decode cX1_swapLetters 29 = .ok (.if_icmp .eq 40, 3) := by decide +kernel
theorem dX1_swapLetters_32 : decode cX1_swapLetters 32 = .ok (.iload 4, 2) := by decide +kernel
theorem dX1_swapLetters_34 : decode cX1_swapLetters 34 = .ok (.iconst (-1), 1) := by decide +kernel
theorem dX1_swapLetters_35 : decode cX1_swapLetters 35 = .ok (.if_icmp .eq 34, 3) := by decide +kernel
theorem dX1_swapLetters_38 : decode cX1_swapLetters 38 = .ok (.iload_n 2, 1) := by decide +kernel
theorem dX1_swapLetters_39 : decode cX1_swapLetters 39 = .ok (.iload 4, 2) := by decide +kernel
theorem dX1_swapLetters_41 : decode cX1_swapLetters 41 = .ok (.if_icmp .eq 28, 3) := by decide +kernel
theorem dX1_swapLetters_44 : decode cX1_swapLetters 44 = .ok (.aload_n 0, 1) := by decide +kernel
theorem dX1_swapLetters_45 : decode cX1_swapLetters 45 = .ok (.getfield 9, 3) := by decide +kernel
theorem dX1_swapLetters_48 : decode cX1_swapLetters 48 = .ok (.iload_n 1, 1) := by decide +kernel
theorem dX1_swapLetters_49 : decode cX1_swapLetters 49 = .ok (.iload_n 2, 1) := by decide +kernel
theorem dX1_swapLetters_50 : decode cX1_swapLetters 50 = .ok (.invokevirtual 98, 3) := by decide +kernel
theorem dX1_swapLetters_53 : decode cX1_swapLetters 53 = .ok (.ifCond .le 16, 3) := by decide +kernel
theorem dX1_swapLetters_56 : decode cX1_swapLetters 56 = .ok (.aload_n 0, 1) := by decide +kernel
theorem dX1_swapLetters_57 : decode cX1_swapLetters 57 = .ok (.getfield 9, 3) := by decide +kernel
theorem dX1_swapLetters_60 : decode cX1_swapLetters 60 = .ok (.iload_n 3, 1) := by decide +kernel
theorem dX1_swapLetters_61 : decode cX1_swapLetters 61 = .ok (.iload 4, 2) := by decide +kernel
theorem dX1_swapLetters_63 : decode cX1_swapLetters 63 = .ok (.invokevirtual 98, 3) := by decide +kernel
theorem dX1_swapLetters_66 : decode cX1_swapLetters 66 = .ok (.ifCond .gt 5, 3) := by decide +kernel
theorem dX1_swapLetters_69 : decode cX1_swapLetters 69 = .ok (.iconst 0, 1) := by decide +kernel
theorem dX1_swapLetters_70 : decode cX1_swapLetters 70 = .ok (.ireturn, 1) := by decide +kernel
theorem dX1_swapLetters_71 : decode cX1_swapLetters 71 = .ok (.aload_n 0, 1) := by decide +kernel
theorem dX1_swapLetters_72 : decode cX1_swapLetters 72 = .ok (.getfield 9, 3) := by decide +kernel
theorem dX1_swapLetters_75 : decode cX1_swapLetters 75 = .ok (.iload_n 1, 1) := by decide +kernel
theorem dX1_swapLetters_76 : decode cX1_swapLetters 76 = .ok (.iload_n 2, 1) := by decide +kernel
theorem dX1_swapLetters_77 : decode cX1_swapLetters 77 = .ok (.iconst (-1), 1) := by decide +kernel
theorem dX1_swapLetters_78 : decode cX1_swapLetters 78 = .ok (.invokevirtual 104, 3) := by decide +kernel
theorem dX1_swapLetters_81 : decode cX1_swapLetters 81 = .ok (.aload_n 0, 1) := by decide +kernel
theorem dX1_swapLetters_82 : decode cX1_swapLetters 82 = .ok (.getfield 9, 3) := by decide +kernel
theorem dX1_swapLetters_85 : decode cX1_swapLetters 85 = .ok (.iload_n 3, 1) := by decide +kernel
theorem dX1_swapLetters_86 : decode cX1_swapLetters 86 = .ok (.iload_n 2, 1) := by decide +kernel
theorem dX1_swapLetters_87 : decode cX1_swapLetters 87 = .ok (.iconst 1, 1) := by decide +kernel
theorem dX1_swapLetters_88 : decode cX1_swapLetters 88 = .ok (.invokevirtual 104, 3) := by decide +kernel
theorem dX1_swapLetters_91 : decode cX1_swapLetters 91 = .ok (.aload_n 0, 1) := by decide +kernel
theorem dX1_swapLetters_92 : decode cX1_swapLetters 92 = .ok (.getfield 9, 3) := by decide +kernel
theorem dX1_swapLetters_95 : decode cX1_swapLetters 95 = .ok (.iload_n 3, 1) := by decide +kernel
theorem dX1_swapLetters_96 : decode cX1_swapLetters 96 = .ok (.iload 4, 2) := by decide +kernel
theorem dX1_swapLetters_98 : decode cX1_swapLetters 98 = .ok (.iconst (-1), 1) := by decide +kernel
theorem dX1_swapLetters_99 : decode cX1_swapLetters 99 = .ok (.invokevirtual 104, 3) := by decide +kernel
theorem dX1_swapLetters_102 : decode cX1_swapLetters 102 = .ok (.aload_n 0, 1) := by decide +kernel
theorem dX1_swapLetters_103 : decode cX1_swapLetters 103 = .ok (.getfield 9, 3) := by decide +kernel
theorem dX1_swapLetters_106 : decode cX1_swapLetters 106 = .ok (.iload_n 1, 1) := by decide +kernel
theorem dX1_swapLetters_107 : decode cX1_swapLetters 107 = .ok (.iload 4, 2) := by decide +kernel
theorem dX1_swapLetters_109 : decode cX1_swapLetters 109 = .ok (.iconst 1, 1) := by decide +kernel
theorem dX1_swapLetters_110 : decode cX1_swapLetters 110 = .ok (.invokevirtual 104, 3) := by decide +kernel
theorem dX1_swapLetters_113 : decode cX1_swapLetters 113 = .ok (.aload_n 0, 1) := by decide +kernel
theorem dX1_swapLetters_114 : decode cX1_swapLetters 114 = .ok (.iconst 3, 1) := by decide +kernel
theorem dX1_swapLetters_115 : decode cX1_swapLetters 115 = .ok (.iload_n 1, 1) := by decide +kernel
theorem dX1_swapLetters_116 : decode cX1_swapLetters 116 = .ok (.iload_n 3, 1) := by decide +kernel
theorem dX1_swapLetters_117 : decode cX1_swapLetters 117 = .ok (.aload_n 0, 1) := by decide +kernel
theorem dX1_swapLetters_118 : decode cX1_swapLetters 118 = .ok (.getfield 9, 3) := by decide +kernel
theorem dX1_swapLetters_121 : decode cX1_swapLetters 121 = .ok (.getfield 85, 3) := by decide +kernel
theorem dX1_swapLetters_124 : decode cX1_swapLetters 124 = .ok (.iload_n 2, 1) := by decide +kernel
theorem dX1_swapLetters_125 : decode cX1_swapLetters 125 = .ok (.invokevirtual 108, 3) := by decide +kernel
theorem dX1_swapLetters_128 : decode cX1_swapLetters 128 = .ok (.invokevirtual 67, 3) := by decide +kernel
theorem dX1_swapLetters_131 : decode cX1_swapLetters 131 = .ok (.iconst 1, 1) := by decide +kernel
theorem dX1_swapLetters_132 : decode cX1_swapLetters 132 = .ok (.ireturn, 1) := by decide +kernel
theorem dX1_lendTitle_0 : decode cX1_lendTitle 0 = .ok (.aload_n 0, 1) := by decide +kernel
theorem dX1_lendTitle_1 : decode cX1_lendTitle 1 = .ok (.getfield 31, 3) := by decide +kernel
theorem dX1_lendTitle_4 : decode cX1_lendTitle 4 = .ok (.invokevirtual 111, 3) := by decide +kernel
theorem dX1_lendTitle_7 : decode cX1_lendTitle 7 = .ok (.ifCond .ne 27, 3) := by decide +kernel
theorem dX1_lendTitle_10 : decode cX1_lendTitle 10 = .ok (.aload_n 0, 1) := by decide +kernel
theorem dX1_lendTitle_11 : decode cX1_lendTitle 11 = .ok (.getfield 9, 3) := by decide +kernel
theorem dX1_lendTitle_14 : decode cX1_lendTitle 14 = .ok (.iload_n 1, 1) := by decide +kernel
theorem dX1_lendTitle_15 : decode cX1_lendTitle 15 = .ok (.iload_n 3, 1) := by decide +kernel
theorem dX1_lendTitle_16 : decode cX1_lendTitle 16 = .ok (.invokevirtual 75, 3) := by decide +kernel
theorem dX1_lendTitle_19 : decode cX1_lendTitle 19 = .ok (.ifCond .eq 15, 3) := by decide +kernel
theorem dX1_lendTitle_22 : decode cX1_lendTitle 22 = .ok (.aload_n 0, 1) := by decide +kernel
theorem dX1_lendTitle_23 : decode cX1_lendTitle 23 = .ok (.getfield 9, 3) := by decide +kernel
theorem dX1_lendTitle_26 : decode cX1_lendTitle 26 = .ok (.iload_n 2, 1) := by decide +kernel
theorem dX1_lendTitle_27 : decode cX1_lendTitle 27 = .ok (.iload_n 3, 1) := by decide +kernel
theorem dX1_lendTitle_28 : decode cX1_lendTitle 28 = .ok (.invokevirtual 115, 3) := by decide +kernel
theorem dX1_lendTitle_31 : decode cX1_lendTitle 31 = .ok (.ifCond .ne 5, 3) := by decide +kernel
theorem dX1_lendTitle_34 : decode cX1_lendTitle 34 = .ok (.iconst (-1), 1) := by decide +kernel
theorem dX1_lendTitle_35 : decode cX1_lendTitle 35 = .ok (.ireturn, 1) := by decide +kernel
theorem dX1_lendTitle_36 : decode cX1_lendTitle 36 = .ok (.aload_n 0, 1) := by decide +kernel
theorem dX1_lendTitle_37 : decode cX1_lendTitle 37 = .ok (.getfield 9, 3) := by decide +kernel
theorem dX1_lendTitle_40 : decode cX1_lendTitle 40 = .ok (.getfield 85, 3) := by decide +kernel
theorem dX1_lendTitle_43 : decode cX1_lendTitle 43 = .ok (.iload_n 3, 1) := by decide +kernel
theorem dX1_lendTitle_44 : decode cX1_lendTitle 44 = .ok (.invokevirtual 89, 3) := by decide +kernel
theorem dX1_lendTitle_47 : decode cX1_lendTitle 47 = .ok (.istore 4, 2) := by decide +kernel
theorem dX1_lendTitle_49 : decode cX1_lendTitle 49 = .ok (.aload_n 0, 1) := by decide +kernel
theorem dX1_lendTitle_50 : decode cX1_lendTitle 50 = .ok (.getfield 9, 3) := by decide +kernel
theorem dX1_lendTitle_53 : decode cX1_lendTitle 53 = .ok (.iload_n 2, 1) := by decide +kernel
theorem dX1_lendTitle_54 : decode cX1_lendTitle 54 = .ok (.invokevirtual 71, 3) := by decide +kernel
theorem dX1_lendTitle_57 : decode cX1_lendTitle 57 = .ok (.iload 4, 2) := by decide +kernel
theorem dX1_lendTitle_59 : decode cX1_lendTitle 59 = .ok (.iadd, 1) := by decide +kernel
theorem dX1_lendTitle_60 : decode cX1_lendTitle 60 = .ok (.aload_n 0, 1) := by decide +kernel
theorem dX1_lendTitle_61 : decode cX1_lendTitle 61 = .ok (.getfield 9, 3) := by decide +kernel
theorem dX1_lendTitle_64 : decode cX1_lendTitle 64 = .ok (.iload_n 2, 1) := by decide +kernel
theorem dX1_lendTitle_65 : decode cX1_lendTitle 65 = .ok (.invokevirtual 118, 3) := by decide +kernel
theorem dX1_lendTitle_68 : decode cX1_lendTitle 68 = .ok (.if_icmp .le 5, 3) := by decide +kernel
theorem dX1_lendTitle_71 : decode cX1_lendTitle 71 = .ok (.iconst (-1), 1) := by decide +kernel
theorem dX1_lendTitle_72 : decode cX1_lendTitle 72 = .ok (.ireturn, 1) := by decide +kernel
theorem dX1_lendTitle_73 : decode cX1_lendTitle 73 = .ok (.aload_n 0, 1) := by decide +kernel
theorem dX1_lendTitle_74 : decode cX1_lendTitle 74 = .ok (.getfield 9, 3) := by decide +kernel
theorem dX1_lendTitle_77 : decode cX1_lendTitle 77 = .ok (.iload_n 1, 1) := by decide +kernel
theorem dX1_lendTitle_78 : decode cX1_lendTitle 78 = .ok (.iload_n 3, 1) := by decide +kernel
theorem dX1_lendTitle_79 : decode cX1_lendTitle 79 = .ok (.invokevirtual 79, 3) := by decide +kernel
theorem dX1_lendTitle_82 : decode cX1_lendTitle 82 = .ok (.aload_n 0, 1) := by decide +kernel
theorem dX1_lendTitle_83 : decode cX1_lendTitle 83 = .ok (.getfield 9, 3) := by decide +kernel
theorem dX1_lendTitle_86 : decode cX1_lendTitle 86 = .ok (.iload_n 2, 1) := by decide +kernel
theorem dX1_lendTitle_87 : decode cX1_lendTitle 87 = .ok (.iload_n 3, 1) := by decide +kernel
theorem dX1_lendTitle_88 : decode cX1_lendTitle 88 = .ok (.invokevirtual 64, 3) := by decide +kernel
theorem dX1_lendTitle_91 : decode cX1_lendTitle 91 = .ok (.aload_n 0, 1) := by decide +kernel
theorem dX1_lendTitle_92 : decode cX1_lendTitle 92 = .ok (.getfield 31, 3) := by decide +kernel
theorem dX1_lendTitle_95 : decode cX1_lendTitle 95 = .ok (.iconst 0, 1) := by decide +kernel
theorem dX1_lendTitle_96 : decode cX1_lendTitle 96 = .ok (.invokevirtual 121, 3) := by decide +kernel
theorem dX1_lendTitle_99 : decode cX1_lendTitle 99 = .ok (.istore 5, 2) := by decide +kernel
theorem dX1_lendTitle_101 : decode cX1_lendTitle 101 = .ok (.aload_n 0, 1) := by decide +kernel
theorem dX1_lendTitle_102 : decode cX1_lendTitle 102 = .ok (.getfield 31, 3) := by decide +kernel
theorem dX1_lendTitle_105 : decode cX1_lendTitle 105 = .ok (.iload 5, 2) := by decide +kernel
theorem dX1_lendTitle_107 : decode cX1_lendTitle 107 = .ok (.iconst 0, 1) := by decide +kernel
theorem dX1_lendTitle_108 : decode cX1_lendTitle 108 = .ok (.iload_n 1, 1) := by decide +kernel
theorem dX1_lendTitle_109 : decode cX1_lendTitle 109 = .ok (.invokevirtual 124, 3) := by decide +kernel
theorem dX1_lendTitle_112 : decode cX1_lendTitle 112 = .ok (.aload_n 0, 1) := by decide +kernel
theorem dX1_lendTitle_113 : decode cX1_lendTitle 113 = .ok (.getfield 31, 3) := by decide +kernel
theorem dX1_lendTitle_116 : decode cX1_lendTitle 116 = .ok (.iload 5, 2) := by decide +kernel
theorem dX1_lendTitle_118 : decode cX1_lendTitle 118 = .ok (.iconst 1, 1) := by decide +kernel
theorem dX1_lendTitle_119 : decode cX1_lendTitle 119 = .ok (.iload_n 2, 1) := by decide +kernel
theorem dX1_lendTitle_120 : decode cX1_lendTitle 120 = .ok (.invokevirtual 124, 3) := by decide +kernel
theorem dX1_lendTitle_123 : decode cX1_lendTitle 123 = .ok (.aload_n 0, 1) := by decide +kernel
theorem dX1_lendTitle_124 : decode cX1_lendTitle 124 = .ok (.getfield 31, 3) := by decide +kernel
theorem dX1_lendTitle_127 : decode cX1_lendTitle 127 = .ok (.iload 5, 2) := by decide +kernel
theorem dX1_lendTitle_129 : decode cX1_lendTitle 129 = .ok (.iconst 2, 1) := by decide +kernel
theorem dX1_lendTitle_130 : decode cX1_lendTitle 130 = .ok (.iload_n 3, 1) := by decide +kernel
theorem dX1_lendTitle_131 : decode cX1_lendTitle 131 = .ok (.invokevirtual 124, 3) := by decide +kernel
theorem dX1_lendTitle_134 : decode cX1_lendTitle 134 = .ok (.aload_n 0, 1) := by decide +kernel
theorem dX1_lendTitle_135 : decode cX1_lendTitle 135 = .ok (.iconst 4, 1) := by decide +kernel
theorem dX1_lendTitle_136 : decode cX1_lendTitle 136 = .ok (.iload_n 1, 1) := by decide +kernel
theorem dX1_lendTitle_137 : decode cX1_lendTitle 137 = .ok (.iload_n 2, 1) := by decide +kernel
theorem dX1_lendTitle_138 : decode cX1_lendTitle 138 = .ok (.iload 4, 2) := by decide +kernel
theorem dX1_lendTitle_140 : decode cX1_lendTitle 140 = .ok (.invokevirtual 67, 3) := by decide +kernel
theorem dX1_lendTitle_143 : decode cX1_lendTitle 143 = .ok (.aload_n 0, 1) := by decide +kernel
theorem dX1_lendTitle_144 : decode cX1_lendTitle 144 = .ok (.getfield 31, 3) := by decide +kernel
theorem dX1_lendTitle_147 : decode cX1_lendTitle 147 = .ok (.getfield 42, 3) := by decide +kernel
theorem dX1_lendTitle_150 : decode cX1_lendTitle 150 = .ok (.ireturn, 1) := by decide +kernel
theorem dX1_canUndo_0 : decode cX1_canUndo 0 = .ok (.aload_n 0, 1) := by decide +kernel
theorem dX1_canUndo_1 : decode cX1_canUndo 1 = .ok (.getfield 31, 3) := by decide +kernel
theorem dX1_canUndo_4 : decode cX1_canUndo 4 = .ok (.iload_n 1, 1) := by decide +kernel
theorem dX1_canUndo_5 : decode cX1_canUndo 5 = .ok (.iconst 2, 1) := by decide +kernel
theorem dX1_canUndo_6 : decode cX1_canUndo 6 = .ok (.invokevirtual 127, 3) := by decide +kernel
theorem dX1_canUndo_9 : decode cX1_canUndo 9 = .ok (.istore_n 2, 1) := by decide +kernel
theorem dX1_canUndo_10 : decode cX1_canUndo 10 = .ok (.aload_n 0, 1) := by decide +kernel
theorem dX1_canUndo_11 : decode cX1_canUndo 11 = .ok (.getfield 9, 3) := by decide +kernel
theorem dX1_canUndo_14 : decode cX1_canUndo 14 = .ok (.aload_n 0, 1) := by decide +kernel
theorem dX1_canUndo_15 : decode cX1_canUndo 15 = .ok (.getfield 31, 3) := by decide +kernel
theorem dX1_canUndo_18 : decode cX1_canUndo 18 = .ok (.iload_n 1, 1) := by decide +kernel
theorem dX1_canUndo_19 : decode cX1_canUndo 19 = .ok (.iconst 1, 1) := by decide +kernel
theorem dX1_canUndo_20 : decode cX1_canUndo 20 = .ok (.invokevirtual 127, 3) := by decide +kernel
theorem dX1_canUndo_23 : decode cX1_canUndo 23 = .ok (.iload_n 2, 1) := by decide +kernel
theorem dX1_canUndo_24 : decode cX1_canUndo 24 = .ok (.invokevirtual 75, 3) := by decide +kernel
theorem dX1_canUndo_27 : decode cX1_canUndo 27 = .ok (.ifCond .eq 27, 3) := by decide +kernel
theorem dX1_canUndo_30 : decode cX1_canUndo 30 = .ok (.aload_n 0, 1) := by decide +kernel
theorem dX1_canUndo_31 : decode cX1_canUndo 31 = .ok (.getfield 9, 3) := by decide +kernel
theorem dX1_canUndo_34 : decode cX1_canUndo 34 = .ok (.aload_n 0, 1) := by decide +kernel
theorem dX1_canUndo_35 : decode cX1_canUndo 35 = .ok (.getfield 31, 3) := by decide +kernel
theorem dX1_canUndo_38 : decode cX1_canUndo 38 = .ok (.iload_n 1, 1) := by decide +kernel
theorem dX1_canUndo_39 : decode cX1_canUndo 39 = .ok (.iconst 0, 1) := by decide +kernel
theorem dX1_canUndo_40 : decode cX1_canUndo 40 = .ok (.invokevirtual 127, 3) := by decide +kernel
theorem dX1_canUndo_43 : decode cX1_canUndo 43 = .ok (.iload_n 2, 1) := by decide +kernel
theorem dX1_canUndo_44 : decode cX1_canUndo 44 = .ok (.invokevirtual 115, 3) := by decide +kernel
theorem dX1_canUndo_47 : decode cX1_canUndo 47 = .ok (.ifCond .eq 7, 3) := by decide +kernel
theorem dX1_canUndo_50 : decode cX1_canUndo 50 = .ok (.iconst 1, 1) := by decide +kernel
theorem dX1_canUndo_51 : decode cX1_canUndo 51 = .ok (.goto 4, 3) := by decide +kernel
theorem dX1_canUndo_54 : decode cX1_canUndo 54 = .ok (.iconst 0, 1) := by decide +kernel
theorem dX1_canUndo_55 : decode cX1_canUndo 55 = .ok (.ireturn, 1) := by decide +kernel
theorem dX1_undoLoan_0 : decode cX1_undoLoan 0 = .ok (.aload_n 0, 1) := by decide +kernel
theorem dX1_undoLoan_1 : decode cX1_undoLoan 1 = .ok (.iload_n 1, 1) := by decide +kernel
theorem dX1_undoLoan_2 : decode cX1_undoLoan 2 = .ok (.invokevirtual 130, 3) := by decide +kernel
theorem dX1_undoLoan_5 : decode cX1_undoLoan 5 = .ok (.ifCond .ne 5, 3) := by decide +kernel
theorem dX1_undoLoan_8 : decode cX1_undoLoan 8 = .ok (.iconst 0, 1) := by decide +kernel
theorem dX1_undoLoan_9 : decode cX1_undoLoan 9 = .ok (.ireturn, 1) := by decide +kernel
theorem dX1_undoLoan_10 : decode cX1_undoLoan 10 = .ok (.aload_n 0, 1) := by decide +kernel
theorem dX1_undoLoan_11 : decode cX1_undoLoan 11 = .ok (.getfield 31, 3) := by decide +kernel
theorem dX1_undoLoan_14 : decode cX1_undoLoan 14 = .ok (.iload_n 1, 1) := by decide +kernel
theorem dX1_undoLoan_15 : decode cX1_undoLoan 15 = .ok (.iconst 0, 1) := by decide +kernel
theorem dX1_undoLoan_16 : decode cX1_undoLoan 16 = .ok (.invokevirtual 127, 3) := by decide +kernel
theorem dX1_undoLoan_19 : decode cX1_undoLoan 19 = .ok (.istore_n 2, 1) := by decide +kernel
theorem dX1_undoLoan_20 : decode cX1_undoLoan 20 = .ok (.aload_n 0, 1) := by decide +kernel
theorem dX1_undoLoan_21 : decode cX1_undoLoan 21 = .ok (.getfield 31, 3) := by decide +kernel
theorem dX1_undoLoan_24 : decode cX1_undoLoan 24 = .ok (.iload_n 1, 1) := by decide +kernel
theorem dX1_undoLoan_25 : decode cX1_undoLoan 25 = .ok (.iconst 1, 1) := by decide +kernel
theorem dX1_undoLoan_26 : decode cX1_undoLoan 26 = .ok (.invokevirtual 127, 3) := by decide +kernel
theorem dX1_undoLoan_29 : decode cX1_undoLoan 29 = .ok (.istore_n 3, 1) := by decide +kernel
theorem dX1_undoLoan_30 : decode cX1_undoLoan 30 = .ok (.aload_n 0, 1) := by decide +kernel
theorem dX1_undoLoan_31 : decode cX1_undoLoan 31 = .ok (.getfield 31, 3) := by decide +kernel
theorem dX1_undoLoan_34 : decode cX1_undoLoan 34 = .ok (.iload_n 1, 1) := by decide +kernel
theorem dX1_undoLoan_35 : decode cX1_undoLoan 35 = .ok (.iconst 2, 1) := by decide +kernel
theorem dX1_undoLoan_36 : decode cX1_undoLoan 36 = .ok (.invokevirtual 127, 3) := by decide +kernel
theorem dX1_undoLoan_39 : decode cX1_undoLoan 39 = .ok (.istore 4, 2) := by decide +kernel
theorem dX1_undoLoan_41 : decode cX1_undoLoan 41 = .ok (.aload_n 0, 1) := by decide +kernel
theorem dX1_undoLoan_42 : decode cX1_undoLoan 42 = .ok (.getfield 9, 3) := by decide +kernel
theorem dX1_undoLoan_45 : decode cX1_undoLoan 45 = .ok (.iload_n 3, 1) := by decide +kernel
theorem dX1_undoLoan_46 : decode cX1_undoLoan 46 = .ok (.iload 4, 2) := by decide +kernel
theorem dX1_undoLoan_48 : decode cX1_undoLoan 48 = .ok (.invokevirtual 79, 3) := by decide +kernel
theorem dX1_undoLoan_51 : decode cX1_undoLoan 51 = .ok (.aload_n 0, 1) := by decide +kernel
theorem dX1_undoLoan_52 : decode cX1_undoLoan 52 = .ok (.getfield 9, 3) := by decide +kernel
theorem dX1_undoLoan_55 : decode cX1_undoLoan 55 = .ok (.iload_n 2, 1) := by decide +kernel
theorem dX1_undoLoan_56 : decode cX1_undoLoan 56 = .ok (.iload 4, 2) := by decide +kernel
theorem dX1_undoLoan_58 : decode cX1_undoLoan 58 = .ok (.invokevirtual 64, 3) := by decide +kernel
theorem dX1_undoLoan_61 : decode cX1_undoLoan 61 = .ok (.aload_n 0, 1) := by decide +kernel
theorem dX1_undoLoan_62 : decode cX1_undoLoan 62 = .ok (.getfield 31, 3) := by decide +kernel
theorem dX1_undoLoan_65 : decode cX1_undoLoan 65 = .ok (.iload_n 1, 1) := by decide +kernel
theorem dX1_undoLoan_66 : decode cX1_undoLoan 66 = .ok (.invokevirtual 133, 3) := by decide +kernel
theorem dX1_undoLoan_69 : decode cX1_undoLoan 69 = .ok (.aload_n 0, 1) := by decide +kernel
theorem dX1_undoLoan_70 : decode cX1_undoLoan 70 = .ok (.iconst 5, 1) := by decide +kernel
theorem dX1_undoLoan_71 : decode cX1_undoLoan 71 = .ok (.iload_n 3, 1) := by decide +kernel
theorem dX1_undoLoan_72 : decode cX1_undoLoan 72 = .ok (.iload_n 2, 1) := by decide +kernel
theorem dX1_undoLoan_73 : decode cX1_undoLoan 73 = .ok (.aload_n 0, 1) := by decide +kernel
theorem dX1_undoLoan_74 : decode cX1_undoLoan 74 = .ok (.getfield 9, 3) := by decide +kernel
theorem dX1_undoLoan_77 : decode cX1_undoLoan 77 = .ok (.getfield 85, 3) := by decide +kernel
theorem dX1_undoLoan_80 : decode cX1_undoLoan 80 = .ok (.iload 4, 2) := by decide +kernel
theorem dX1_undoLoan_82 : decode cX1_undoLoan 82 = .ok (.invokevirtual 89, 3) := by decide +kernel
theorem dX1_undoLoan_85 : decode cX1_undoLoan 85 = .ok (.invokevirtual 67, 3) := by decide +kernel
theorem dX1_undoLoan_88 : decode cX1_undoLoan 88 = .ok (.iconst 1, 1) := by decide +kernel
theorem dX1_undoLoan_89 : decode cX1_undoLoan 89 = .ok (.ireturn, 1) := by decide +kernel
theorem dX1_sinkCoat_0 : decode cX1_sinkCoat 0 = .ok (.aload_n 0, 1) := by decide +kernel
theorem dX1_sinkCoat_1 : decode cX1_sinkCoat 1 = .ok (.getfield 9, 3) := by decide +kernel
theorem dX1_sinkCoat_4 : decode cX1_sinkCoat 4 = .ok (.iload_n 1, 1) := by decide +kernel
theorem dX1_sinkCoat_5 : decode cX1_sinkCoat 5 = .ok (.invokevirtual 94, 3) := by decide +kernel
theorem dX1_sinkCoat_8 : decode cX1_sinkCoat 8 = .ok (.ifCond .ne 5, 3) := by decide +kernel
theorem dX1_sinkCoat_11 : decode cX1_sinkCoat 11 = .ok (.iconst (-1), 1) := by decide +kernel
theorem dX1_sinkCoat_12 : decode cX1_sinkCoat 12 = .ok (.ireturn, 1) := by decide +kernel
theorem dX1_sinkCoat_13 : decode cX1_sinkCoat 13 = .ok (.aload_n 0, 1) := by decide +kernel
theorem dX1_sinkCoat_14 : decode cX1_sinkCoat 14 = .ok (.getfield 9, 3) := by decide +kernel
theorem dX1_sinkCoat_17 : decode cX1_sinkCoat 17 = .ok (.iload_n 1, 1) := by decide +kernel
theorem dX1_sinkCoat_18 : decode cX1_sinkCoat 18 = .ok (.invokevirtual 71, 3) := by decide +kernel
theorem dX1_sinkCoat_21 : decode cX1_sinkCoat 21 = .ok (.istore_n 2, 1) := by decide +kernel
theorem dX1_sinkCoat_22 : decode cX1_sinkCoat 22 = .ok (.iconst 0, 1) := by decide +kernel
theorem dX1_sinkCoat_23 : decode cX1_sinkCoat 23 = .ok (.istore_n 3, 1) := by decide +kernel
theorem dX1_sinkCoat_24 : decode cX1_sinkCoat 24 = .ok (.iload_n 3, 1) := by decide +kernel
theorem dX1_sinkCoat_25 : decode cX1_sinkCoat 25 = .ok (.aload_n 0, 1) := by decide +kernel
theorem dX1_sinkCoat_26 : decode cX1_sinkCoat 26 = .ok (.getfield 9, 3) := by decide +kernel
theorem dX1_sinkCoat_29 : decode cX1_sinkCoat 29 = .ok (.getfield 85, 3) := by decide +kernel
theorem dX1_sinkCoat_32 : decode cX1_sinkCoat 32 = .ok (.getfield 137, 3) := by decide +kernel
theorem dX1_sinkCoat_35 : decode cX1_sinkCoat 35 = .ok (.getfield 42, 3) := by decide +kernel
theorem dX1_sinkCoat_38 : decode cX1_sinkCoat 38 = .ok (.if_icmp .ge 18, 3) := by decide +kernel
theorem dX1_sinkCoat_41 : decode cX1_sinkCoat 41 = .ok (.aload_n 0, 1) := by decide +kernel
theorem dX1_sinkCoat_42 : decode cX1_sinkCoat 42 = .ok (.getfield 9, 3) := by decide +kernel
theorem dX1_sinkCoat_45 : decode cX1_sinkCoat 45 = .ok (.iload_n 1, 1) := by decide +kernel
theorem dX1_sinkCoat_46 : decode cX1_sinkCoat 46 = .ok (.iload_n 3, 1) := by decide +kernel
theorem dX1_sinkCoat_47 : decode cX1_sinkCoat 47 = .ok (.invokevirtual 79, 3) := by decide +kernel
theorem dX1_sinkCoat_50 : decode cX1_sinkCoat 50 = .ok (.iinc 3 1, 3) := by decide +kernel
theorem dX1_sinkCoat_53 : decode cX1_sinkCoat 53 = .ok (.goto (-29), 3) := by decide +kernel
theorem dX1_sinkCoat_56 : decode cX1_sinkCoat 56 = .ok (.iconst 0, 1) := by decide +kernel
theorem dX1_sinkCoat_57 : decode cX1_sinkCoat 57 = .ok (.istore_n 3, 1) := by decide +kernel
theorem dX1_sinkCoat_58 : decode cX1_sinkCoat 58 = .ok (.iload_n 3, 1) := by decide +kernel
theorem dX1_sinkCoat_59 : decode cX1_sinkCoat 59 = .ok (.bipush 26, 2) := by decide +kernel
theorem dX1_sinkCoat_61 : decode cX1_sinkCoat 61 = .ok (.if_icmp .ge 28, 3) := by decide +kernel
theorem dX1_sinkCoat_64 : decode cX1_sinkCoat 64 = .ok (.aload_n 0, 1) := by decide +kernel
theorem dX1_sinkCoat_65 : decode cX1_sinkCoat 65 = .ok (.getfield 9, 3) := by decide +kernel
theorem dX1_sinkCoat_68 : decode cX1_sinkCoat 68 = .ok (.iload_n 1, 1) := by decide +kernel
theorem dX1_sinkCoat_69 : decode cX1_sinkCoat 69 = .ok (.iload_n 3, 1) := by decide +kernel
theorem dX1_sinkCoat_70 : decode cX1_sinkCoat 70 = .ok (.aload_n 0, 1) := by decide +kernel
theorem dX1_sinkCoat_71 : decode cX1_sinkCoat 71 = .ok (.getfield 9, 3) := by decide +kernel
theorem dX1_sinkCoat_74 : decode cX1_sinkCoat 74 = .ok (.iload_n 1, 1) := by decide +kernel
theorem dX1_sinkCoat_75 : decode cX1_sinkCoat 75 = .ok (.iload_n 3, 1) := by decide +kernel
theorem dX1_sinkCoat_76 : decode cX1_sinkCoat 76 = .ok (.invokevirtual 98, 3) := by decide +kernel
theorem dX1_sinkCoat_79 : decode cX1_sinkCoat 79 = .ok (.ineg, 1) := by decide +kernel
theorem dX1_sinkCoat_80 : decode cX1_sinkCoat 80 = .ok (.invokevirtual 104, 3) := by decide +kernel
theorem dX1_sinkCoat_83 : decode cX1_sinkCoat 83 = .ok (.iinc 3 1, 3) := by decide +kernel
theorem dX1_sinkCoat_86 : decode cX1_sinkCoat 86 = .ok (.goto (-28), 3) := by decide +kernel
theorem dX1_sinkCoat_89 : decode cX1_sinkCoat 89 = .ok (.aload_n 0, 1) := by decide +kernel
theorem dX1_sinkCoat_90 : decode cX1_sinkCoat 90 = .ok (.getfield 9, 3) := by decide +kernel
theorem dX1_sinkCoat_93 : decode cX1_sinkCoat 93 = .ok (.dup, 1) := by decide +kernel
theorem dX1_sinkCoat_94 : decode cX1_sinkCoat 94 = .ok (.getfield 140, 3) := by decide +kernel
theorem dX1_sinkCoat_97 : decode cX1_sinkCoat 97 = .ok (.iload_n 2, 1) := by decide +kernel
theorem dX1_sinkCoat_98 : decode cX1_sinkCoat 98 = .ok (.iadd, 1) := by decide +kernel
theorem dX1_sinkCoat_99 : decode cX1_sinkCoat 99 = .ok (.putfield 140, 3) := by decide +kernel
theorem dX1_sinkCoat_102 : decode cX1_sinkCoat 102 = .ok (.aload_n 0, 1) := by decide +kernel
theorem dX1_sinkCoat_103 : decode cX1_sinkCoat 103 = .ok (.bipush 6, 2) := by decide +kernel
theorem dX1_sinkCoat_105 : decode cX1_sinkCoat 105 = .ok (.iload_n 1, 1) := by decide +kernel
theorem dX1_sinkCoat_106 : decode cX1_sinkCoat 106 = .ok (.iconst (-1), 1) := by decide +kernel
theorem dX1_sinkCoat_107 : decode cX1_sinkCoat 107 = .ok (.iload_n 2, 1) := by decide +kernel
theorem dX1_sinkCoat_108 : decode cX1_sinkCoat 108 = .ok (.invokevirtual 67, 3) := by decide +kernel
theorem dX1_sinkCoat_111 : decode cX1_sinkCoat 111 = .ok (.iload_n 2, 1) := by decide +kernel
theorem dX1_sinkCoat_112 : decode cX1_sinkCoat 112 = .ok (.ireturn, 1) := by decide +kernel
theorem dX1_castBullet_0 : decode cX1_castBullet 0 = .ok (.aload_n 0, 1) := by decide +kernel
theorem dX1_castBullet_1 : decode cX1_castBullet 1 = .ok (.getfield 9, 3) := by decide +kernel
theorem dX1_castBullet_4 : decode cX1_castBullet 4 = .ok (.iload_n 1, 1) := by decide +kernel
theorem dX1_castBullet_5 : decode cX1_castBullet 5 = .ok (.iload_n 2, 1) := by decide +kernel
theorem dX1_castBullet_6 : decode cX1_castBullet 6 = .ok (.invokevirtual 75, 3) := by decide +kernel
theorem dX1_castBullet_9 : decode cX1_castBullet 9 = .ok (.ifCond .eq 15, 3) := by decide +kernel
theorem dX1_castBullet_12 : decode cX1_castBullet 12 = .ok (.aload_n 0, 1) := by decide +kernel
theorem dX1_castBullet_13 : decode cX1_castBullet 13 = .ok (.getfield 9, 3) := by decide +kernel
theorem dX1_castBullet_16 : decode cX1_castBullet 16 = .ok (.getfield 143, 3) := by decide +kernel
theorem dX1_castBullet_19 : decode cX1_castBullet 19 = .ok (.bipush 30, 2) := by decide +kernel
theorem dX1_castBullet_21 : decode cX1_castBullet 21 = .ok (.if_icmp .lt 5, 3) := by decide +kernel
theorem dX1_castBullet_24 : decode cX1_castBullet 24 = .ok (.iconst (-1), 1) := by decide +kernel
theorem dX1_castBullet_25 : decode cX1_castBullet 25 = .ok (.ireturn, 1) := by decide +kernel
theorem dX1_castBullet_26 : decode cX1_castBullet 26 = .ok (.aload_n 0, 1) := by decide +kernel
theorem dX1_castBullet_27 : decode cX1_castBullet 27 = .ok (.getfield 9, 3) := by decide +kernel
theorem dX1_castBullet_30 : decode cX1_castBullet 30 = .ok (.getfield 85, 3) := by decide +kernel
theorem dX1_castBullet_33 : decode cX1_castBullet 33 = .ok (.iload_n 2, 1) := by decide +kernel
theorem dX1_castBullet_34 : decode cX1_castBullet 34 = .ok (.invokevirtual 89, 3) := by decide +kernel
theorem dX1_castBullet_37 : decode cX1_castBullet 37 = .ok (.istore_n 3, 1) := by decide +kernel
theorem dX1_castBullet_38 : decode cX1_castBullet 38 = .ok (.aload_n 0, 1) := by decide +kernel
theorem dX1_castBullet_39 : decode cX1_castBullet 39 = .ok (.getfield 9, 3) := by decide +kernel
theorem dX1_castBullet_42 : decode cX1_castBullet 42 = .ok (.iload_n 1, 1) := by decide +kernel
theorem dX1_castBullet_43 : decode cX1_castBullet 43 = .ok (.iload_n 2, 1) := by decide +kernel
theorem dX1_castBullet_44 : decode cX1_castBullet 44 = .ok (.invokevirtual 79, 3) := by decide +kernel
theorem dX1_castBullet_47 : decode cX1_castBullet 47 = .ok (.aload_n 0, 1) := by decide +kernel
theorem dX1_castBullet_48 : decode cX1_castBullet 48 = .ok (.getfield 9, 3) := by decide +kernel
theorem dX1_castBullet_51 : decode cX1_castBullet 51 = .ok (.getfield 146, 3) := by decide +kernel
theorem dX1_castBullet_54 : decode cX1_castBullet 54 = .ok (.aload_n 0, 1) := by decide +kernel
theorem dX1_castBullet_55 : decode cX1_castBullet 55 = .ok (.getfield 9, 3) := by decide +kernel
theorem dX1_castBullet_58 : decode cX1_castBullet 58 = .ok (.getfield 143, 3) := by decide +kernel
theorem dX1_castBullet_61 : decode cX1_castBullet 61 = .ok (.iload_n 3, 1) := by decide +kernel
theorem dX1_castBullet_62 : decode cX1_castBullet 62 = .ok (.iastore, 1) := by decide +kernel
theorem dX1_castBullet_63 : decode cX1_castBullet 63 = .ok (.aload_n 0, 1) := by decide +kernel
theorem dX1_castBullet_64 : decode cX1_castBullet 64 = .ok (.getfield 9, 3) := by decide +kernel
theorem dX1_castBullet_67 : decode cX1_castBullet 67 = .ok (.dup, 1) := by decide +kernel
theorem dX1_castBullet_68 : decode cX1_castBullet 68 = .ok (.getfield 143, 3) := by decide +kernel
theorem dX1_castBullet_71 : decode cX1_castBullet 71 = .ok (.iconst 1, 1) := by decide +kernel
theorem dX1_castBullet_72 : decode cX1_castBullet 72 = .ok (.iadd, 1) := by decide +kernel
theorem dX1_castBullet_73 : decode cX1_castBullet 73 = .ok (.putfield 143, 3) := by decide +kernel
theorem dX1_castBullet_76 : decode cX1_castBullet 76 = .ok (.aload_n 0, 1) := by decide +kernel
theorem dX1_castBullet_77 : decode cX1_castBullet 77 = .ok (.bipush 7, 2) := by decide +kernel
theorem dX1_castBullet_79 : decode cX1_castBullet 79 = .ok (.iload_n 1, 1) := by decide +kernel
theorem dX1_castBullet_80 : decode cX1_castBullet 80 = .ok (.iconst (-1), 1) := by decide +kernel
theorem dX1_castBullet_81 : decode cX1_castBullet 81 = .ok (.iload_n 3, 1) := by decide +kernel
theorem dX1_castBullet_82 : decode cX1_castBullet 82 = .ok (.invokevirtual 67, 3) := by decide +kernel
theorem dX1_castBullet_85 : decode cX1_castBullet 85 = .ok (.aload_n 0, 1) := by decide +kernel
theorem dX1_castBullet_86 : decode cX1_castBullet 86 = .ok (.getfield 9, 3) := by decide +kernel
theorem dX1_castBullet_89 : decode cX1_castBullet 89 = .ok (.getfield 143, 3) := by decide +kernel
theorem dX1_castBullet_92 : decode cX1_castBullet 92 = .ok (.ireturn, 1) := by decide +kernel
theorem dX1_inherit_0 : decode cX1_inherit 0 = .ok (.aload_n 0, 1) := by decide +kernel
theorem dX1_inherit_1 : decode cX1_inherit 1 = .ok (.getfield 9, 3) := by decide +kernel
theorem dX1_inherit_4 : decode cX1_inherit 4 = .ok (.iload_n 1, 1) := by decide +kernel
theorem dX1_inherit_5 : decode cX1_inherit 5 = .ok (.invokevirtual 94, 3) := by decide +kernel
theorem dX1_inherit_8 : decode cX1_inherit 8 = .ok (.ifCond .eq 19, 3) := by decide +kernel
theorem dX1_inherit_11 : decode cX1_inherit 11 = .ok (.aload_n 0, 1) := by decide +kernel
theorem dX1_inherit_12 : decode cX1_inherit 12 = .ok (.getfield 9, 3) := by decide +kernel
theorem dX1_inherit_15 : decode cX1_inherit 15 = .ok (.iload_n 2, 1) := by decide +kernel
theorem dX1_inherit_16 : decode cX1_inherit 16 = .ok (.invokevirtual 94, 3) := by decide +kernel
theorem dX1_inherit_19 : decode cX1_inherit 19 = .ok (.ifCond .eq 8, 3) := by decide +kernel
theorem dX1_inherit_22 : decode cX1_inherit 22 = .ok (.iload_n 1, 1) := by decide +kernel
theorem dX1_inherit_23 : decode cX1_inherit 23 = .ok (.iload_n 2, 1) := by decide +kernel
theorem dX1_inherit_24 : decode cX1_inherit 24 = .ok (.if_icmp .ne 5, 3) := by decide +kernel
theorem dX1_inherit_27 : decode cX1_inherit 27 = .ok (.iconst (-1), 1) := by decide +kernel
theorem dX1_inherit_28 : decode cX1_inherit 28 = .ok (.ireturn, 1) := by decide +kernel
theorem dX1_inherit_29 : decode cX1_inherit 29 = .ok (.iconst 0, 1) := by decide +kernel
theorem dX1_inherit_30 : decode cX1_inherit 30 = .ok (.aload_n 0, 1) := by decide +kernel
theorem dX1_inherit_31 : decode cX1_inherit 31 = .ok (.getfield 9, 3) := by decide +kernel
theorem dX1_inherit_34 : decode cX1_inherit 34 = .ok (.iload_n 2, 1) := by decide +kernel
theorem dX1_inherit_35 : decode cX1_inherit 35 = .ok (.invokevirtual 118, 3) := by decide +kernel
theorem dX1_inherit_38 : decode cX1_inherit 38 = .ok (.aload_n 0, 1) := by decide +kernel
theorem dX1_inherit_39 : decode cX1_inherit 39 = .ok (.getfield 9, 3) := by decide +kernel
theorem dX1_inherit_42 : decode cX1_inherit 42 = .ok (.iload_n 2, 1) := by decide +kernel
theorem dX1_inherit_43 : decode cX1_inherit 43 = .ok (.invokevirtual 71, 3) := by decide +kernel
theorem dX1_inherit_46 : decode cX1_inherit 46 = .ok (.isub, 1) := by decide +kernel
theorem dX1_inherit_47 : decode cX1_inherit 47 = .ok (.invokestatic 150, 3) := by decide +kernel
theorem dX1_inherit_50 : decode cX1_inherit 50 = .ok (.istore_n 3, 1) := by decide +kernel
theorem dX1_inherit_51 : decode cX1_inherit 51 = .ok (.aload_n 0, 1) := by decide +kernel
theorem dX1_inherit_52 : decode cX1_inherit 52 = .ok (.getfield 9, 3) := by decide +kernel
theorem dX1_inherit_55 : decode cX1_inherit 55 = .ok (.iload_n 1, 1) := by decide +kernel
theorem dX1_inherit_56 : decode cX1_inherit 56 = .ok (.invokevirtual 155, 3) := by decide +kernel
theorem dX1_inherit_59 : decode cX1_inherit 59 = .ok (.aload_n 0, 1) := by decide +kernel
theorem dX1_inherit_60 : decode cX1_inherit 60 = .ok (.getfield 9, 3) := by decide +kernel
theorem dX1_inherit_63 : decode cX1_inherit 63 = .ok (.iload_n 2, 1) := by decide +kernel
theorem dX1_inherit_64 : decode cX1_inherit 64 = .ok (.invokevirtual 155, 3) := by decide +kernel
theorem dX1_inherit_67 : decode cX1_inherit 67 = .ok (.iconst (-1), 1) := by decide +kernel
theorem dX1_inherit_68 : decode cX1_inherit 68 = .ok (.ixor, 1) := by decide +kernel
theorem dX1_inherit_69 : decode cX1_inherit 69 = .ok (.iand, 1) := by decide +kernel
theorem dX1_inherit_70 : decode cX1_inherit 70 = .ok (.istore 4, 2) := by decide +kernel
theorem dX1_inherit_72 : decode cX1_inherit 72 = .ok (.aload_n 0, 1) := by decide +kernel
theorem dX1_inherit_73 : decode cX1_inherit 73 = .ok (.getfield 15, 3) := by decide +kernel
theorem dX1_inherit_76 : decode cX1_inherit 76 = .ok (.aload_n 0, 1) := by decide +kernel
theorem dX1_inherit_77 : decode cX1_inherit 77 = .ok (.getfield 9, 3) := by decide +kernel
theorem dX1_inherit_80 : decode cX1_inherit 80 = .ok (.getfield 85, 3) := by decide +kernel
theorem dX1_inherit_83 : decode cX1_inherit 83 = .ok (.iload 4, 2) := by decide +kernel
theorem dX1_inherit_85 : decode cX1_inherit 85 = .ok (.iload_n 3, 1) := by decide +kernel
theorem dX1_inherit_86 : decode cX1_inherit 86 = .ok (.invokevirtual 158, 3) := by decide +kernel
theorem dX1_inherit_89 : decode cX1_inherit 89 = .ok (.istore 5, 2) := by decide +kernel
theorem dX1_inherit_91 : decode cX1_inherit 91 = .ok (.iconst 0, 1) := by decide +kernel
theorem dX1_inherit_92 : decode cX1_inherit 92 = .ok (.istore 6, 2) := by decide +kernel
theorem dX1_inherit_94 : decode cX1_inherit 94 = .ok (.iload 6, 2) := by decide +kernel
theorem dX1_inherit_96 : decode cX1_inherit 96 = .ok (.aload_n 0, 1) := by decide +kernel
theorem dX1_inherit_97 : decode cX1_inherit 97 = .ok (.getfield 9, 3) := by decide +kernel
theorem dX1_inherit_100 : decode cX1_inherit 100 = .ok (.getfield 85, 3) := by decide +kernel
theorem dX1_inherit_103 : decode cX1_inherit 103 = .ok (.getfield 137, 3) := by decide +kernel
theorem dX1_inherit_106 : decode cX1_inherit 106 = .ok (.getfield 42, 3) := by decide +kernel
theorem dX1_inherit_109 : decode cX1_inherit 109 = .ok (.if_icmp .ge 66, 3) := by decide +kernel
theorem dX1_inherit_112 : decode cX1_inherit 112 = .ok (.aload_n 0, 1) := by decide +kernel
theorem dX1_inherit_113 : decode cX1_inherit 113 = .ok (.getfield 9, 3) := by decide +kernel
theorem dX1_inherit_116 : decode cX1_inherit 116 = .ok (.iload_n 1, 1) := by decide +kernel
theorem dX1_inherit_117 : decode cX1_inherit 117 = .ok (.iload 6, 2) := by decide +kernel
theorem dX1_inherit_119 : decode cX1_inherit 119 = .ok (.invokevirtual 75, 3) := by decide +kernel
theorem dX1_inherit_122 : decode cX1_inherit 122 = .ok (.ifCond .eq 47, 3) := by decide +kernel
theorem dX1_inherit_125 : decode cX1_inherit 125 = .ok (.aload_n 0, 1) := by decide +kernel
theorem dX1_inherit_126 : decode cX1_inherit 126 = .ok (.getfield 9, 3) := by decide +kernel
theorem dX1_inherit_129 : decode cX1_inherit 129 = .ok (.iload_n 1, 1) := by decide +kernel
theorem dX1_inherit_130 : decode cX1_inherit 130 = .ok (.iload 6, 2) := by decide +kernel
theorem dX1_inherit_132 : decode cX1_inherit 132 = .ok (.invokevirtual 79, 3) := by decide +kernel
theorem dX1_inherit_135 : decode cX1_inherit 135 = .ok (.iload 5, 2) := by decide +kernel
theorem dX1_inherit_137 : decode cX1_inherit 137 = .ok (.iload 6, 2) := by decide +kernel
theorem dX1_inherit_139 : decode cX1_inherit 139 = .ok (.ishr, 1) := by decide +kernel
theorem dX1_inherit_140 : decode cX1_inherit 140 = .ok (.iconst 1, 1) := by decide +kernel
theorem dX1_inherit_141 : decode cX1_inherit 141 = .ok (.iand, 1) := by decide +kernel
theorem dX1_inherit_142 : decode cX1_inherit 142 = .ok (.ifCond .eq 16, 3) := by decide +kernel
theorem dX1_inherit_145 : decode cX1_inherit 145 = .ok (.aload_n 0, 1) := by decide +kernel
theorem dX1_inherit_146 : decode cX1_inherit 146 = .ok (.getfield 9, 3) := by decide +kernel
theorem dX1_inherit_149 : decode cX1_inherit 149 = .ok (.iload_n 2, 1) := by decide +kernel
theorem dX1_inherit_150 : decode cX1_inherit 150 = .ok (.iload 6, 2) := by decide +kernel
theorem dX1_inherit_152 : decode cX1_inherit 152 = .ok (.invokevirtual 64, 3) := by decide +kernel
theorem dX1_inherit_155 : decode cX1_inherit 155 = .ok (.goto 14, 3) := by decide +kernel
theorem dX1_inherit_158 : decode cX1_inherit 158 = .ok (.aload_n 0, 1) := by decide +kernel
theorem dX1_inherit_159 : decode cX1_inherit 159 = .ok (.getfield 9, 3) := by decide +kernel
theorem dX1_inherit_162 : decode cX1_inherit 162 = .ok (.iload 6, 2) := by decide +kernel
theorem dX1_inherit_164 : decode cX1_inherit 164 = .ok (.bipush 8, 2) := by decide +kernel
theorem dX1_inherit_166 : decode cX1_inherit 166 = .ok (.invokevirtual 82, 3) := by decide +kernel
theorem dX1_inherit_169 : decode cX1_inherit 169 = .ok (.iinc 6 1, 3) := by decide +kernel
theorem dX1_inherit_172 : decode cX1_inherit 172 = .ok (.goto (-78), 3) := by decide +kernel
theorem dX1_inherit_175 : decode cX1_inherit 175 = .ok (.aload_n 0, 1) := by decide +kernel
theorem dX1_inherit_176 : decode cX1_inherit 176 = .ok (.getfield 9, 3) := by decide +kernel
theorem dX1_inherit_179 : decode cX1_inherit 179 = .ok (.iload_n 1, 1) := by decide +kernel
theorem dX1_inherit_180 : decode cX1_inherit 180 = .ok (.invokevirtual 164, 3) := by decide +kernel
theorem dX1_inherit_183 : decode cX1_inherit 183 = .ok (.aload_n 0, 1) := by decide +kernel
theorem dX1_inherit_184 : decode cX1_inherit 184 = .ok (.bipush 8, 2) := by decide +kernel
theorem dX1_inherit_186 : decode cX1_inherit 186 = .ok (.iload_n 1, 1) := by decide +kernel
theorem dX1_inherit_187 : decode cX1_inherit 187 = .ok (.iload_n 2, 1) := by decide +kernel
theorem dX1_inherit_188 : decode cX1_inherit 188 = .ok (.aload_n 0, 1) := by decide +kernel
theorem dX1_inherit_189 : decode cX1_inherit 189 = .ok (.getfield 9, 3) := by decide +kernel
theorem dX1_inherit_192 : decode cX1_inherit 192 = .ok (.getfield 85, 3) := by decide +kernel
theorem dX1_inherit_195 : decode cX1_inherit 195 = .ok (.iload 5, 2) := by decide +kernel
theorem dX1_inherit_197 : decode cX1_inherit 197 = .ok (.invokevirtual 167, 3) := by decide +kernel
theorem dX1_inherit_200 : decode cX1_inherit 200 = .ok (.invokevirtual 67, 3) := by decide +kernel
theorem dX1_inherit_203 : decode cX1_inherit 203 = .ok (.iload 5, 2) := by decide +kernel
theorem dX1_inherit_205 : decode cX1_inherit 205 = .ok (.ireturn, 1) := by decide +kernel
theorem dX1_passYears_0 : decode cX1_passYears 0 = .ok (.iload_n 1, 1) := by decide +kernel
theorem dX1_passYears_1 : decode cX1_passYears 1 = .ok (.iconst 1, 1) := by decide +kernel
theorem dX1_passYears_2 : decode cX1_passYears 2 = .ok (.if_icmp .lt 9, 3) := by decide +kernel
theorem dX1_passYears_5 : decode cX1_passYears 5 = .ok (.iload_n 1, 1) := by decide +kernel
theorem dX1_passYears_6 : decode cX1_passYears 6 = .ok (.bipush 60, 2) := by decide +kernel
theorem dX1_passYears_8 : decode cX1_passYears 8 = .ok (.if_icmp .le 5, 3) := by decide +kernel
theorem dX1_passYears_11 : decode cX1_passYears 11 = .ok (.iconst (-1), 1) := by decide +kernel
theorem dX1_passYears_12 : decode cX1_passYears 12 = .ok (.ireturn, 1) := by decide +kernel
theorem dX1_passYears_13 : decode cX1_passYears 13 = .ok (.iconst 0, 1) := by decide +kernel
theorem dX1_passYears_14 : decode cX1_passYears 14 = .ok (.istore_n 2, 1) := by decide +kernel
theorem dX1_passYears_15 : decode cX1_passYears 15 = .ok (.iconst 0, 1) := by decide +kernel
theorem dX1_passYears_16 : decode cX1_passYears 16 = .ok (.istore_n 3, 1) := by decide +kernel
theorem dX1_passYears_17 : decode cX1_passYears 17 = .ok (.iload_n 3, 1) := by decide +kernel
theorem dX1_passYears_18 : decode cX1_passYears 18 = .ok (.iload_n 1, 1) := by decide +kernel
theorem dX1_passYears_19 : decode cX1_passYears 19 = .ok (.if_icmp .ge 67, 3) := by decide +kernel
theorem dX1_passYears_22 : decode cX1_passYears 22 = .ok (.aload_n 0, 1) := by decide +kernel
theorem dX1_passYears_23 : decode cX1_passYears 23 = .ok (.getfield 9, 3) := by decide +kernel
theorem dX1_passYears_26 : decode cX1_passYears 26 = .ok (.sipush 999, 3) := by decide +kernel
theorem dX1_passYears_29 : decode cX1_passYears 29 = .ok (.aload_n 0, 1) := by decide +kernel
theorem dX1_passYears_30 : decode cX1_passYears 30 = .ok (.getfield 9, 3) := by decide +kernel
theorem dX1_passYears_33 : decode cX1_passYears 33 = .ok (.getfield 49, 3) := by decide +kernel
theorem dX1_passYears_36 : decode cX1_passYears 36 = .ok (.iconst 1, 1) := by decide +kernel
theorem dX1_passYears_37 : decode cX1_passYears 37 = .ok (.iadd, 1) := by decide +kernel
theorem dX1_passYears_38 : decode cX1_passYears 38 = .ok (.invokestatic 170, 3) := by decide +kernel
theorem dX1_passYears_41 : decode cX1_passYears 41 = .ok (.putfield 49, 3) := by decide +kernel
theorem dX1_passYears_44 : decode cX1_passYears 44 = .ok (.iconst 0, 1) := by decide +kernel
theorem dX1_passYears_45 : decode cX1_passYears 45 = .ok (.istore 4, 2) := by decide +kernel
theorem dX1_passYears_47 : decode cX1_passYears 47 = .ok (.iload 4, 2) := by decide +kernel
theorem dX1_passYears_49 : decode cX1_passYears 49 = .ok (.aload_n 0, 1) := by decide +kernel
theorem dX1_passYears_50 : decode cX1_passYears 50 = .ok (.getfield 9, 3) := by decide +kernel
theorem dX1_passYears_53 : decode cX1_passYears 53 = .ok (.getfield 85, 3) := by decide +kernel
theorem dX1_passYears_56 : decode cX1_passYears 56 = .ok (.getfield 173, 3) := by decide +kernel
theorem dX1_passYears_59 : decode cX1_passYears 59 = .ok (.getfield 42, 3) := by decide +kernel
theorem dX1_passYears_62 : decode cX1_passYears 62 = .ok (.if_icmp .ge 18, 3) := by decide +kernel
theorem dX1_passYears_65 : decode cX1_passYears 65 = .ok (.iload_n 2, 1) := by decide +kernel
theorem dX1_passYears_66 : decode cX1_passYears 66 = .ok (.aload_n 0, 1) := by decide +kernel
theorem dX1_passYears_67 : decode cX1_passYears 67 = .ok (.iload 4, 2) := by decide +kernel
theorem dX1_passYears_69 : decode cX1_passYears 69 = .ok (.invokevirtual 176, 3) := by decide +kernel
theorem dX1_passYears_72 : decode cX1_passYears 72 = .ok (.iadd, 1) := by decide +kernel
theorem dX1_passYears_73 : decode cX1_passYears 73 = .ok (.istore_n 2, 1) := by decide +kernel
theorem dX1_passYears_74 : decode cX1_passYears 74 = .ok (.iinc 4 1, 3) := by decide +kernel
theorem dX1_passYears_77 : decode cX1_passYears 77 = .ok (.goto (-30), 3) := by decide +kernel
theorem dX1_passYears_80 : decode cX1_passYears 80 = .ok (.iinc 3 1, 3) := by decide +kernel
theorem dX1_passYears_83 : decode cX1_passYears 83 = .ok (.goto (-66), 3) := by decide +kernel
theorem dX1_passYears_86 : decode cX1_passYears 86 = .ok (.iload_n 2, 1) := by decide +kernel
theorem dX1_passYears_87 : decode cX1_passYears 87 = .ok (.ireturn, 1) := by decide +kernel
theorem dX1_lighten_0 : decode cX1_lighten 0 = .ok (.aload_n 0, 1) := by decide +kernel
theorem dX1_lighten_1 : decode cX1_lighten 1 = .ok (.getfield 9, 3) := by decide +kernel
theorem dX1_lighten_4 : decode cX1_lighten 4 = .ok (.iload_n 1, 1) := by decide +kernel
theorem dX1_lighten_5 : decode cX1_lighten 5 = .ok (.invokevirtual 118, 3) := by decide +kernel
theorem dX1_lighten_8 : decode cX1_lighten 8 = .ok (.istore_n 2, 1) := by decide +kernel
theorem dX1_lighten_9 : decode cX1_lighten 9 = .ok (.aload_n 0, 1) := by decide +kernel
theorem dX1_lighten_10 : decode cX1_lighten 10 = .ok (.getfield 9, 3) := by decide +kernel
theorem dX1_lighten_13 : decode cX1_lighten 13 = .ok (.iload_n 1, 1) := by decide +kernel
theorem dX1_lighten_14 : decode cX1_lighten 14 = .ok (.invokevirtual 71, 3) := by decide +kernel
theorem dX1_lighten_17 : decode cX1_lighten 17 = .ok (.iload_n 2, 1) := by decide +kernel
theorem dX1_lighten_18 : decode cX1_lighten 18 = .ok (.if_icmp .gt 5, 3) := by decide +kernel
theorem dX1_lighten_21 : decode cX1_lighten 21 = .ok (.iconst 0, 1) := by decide +kernel
theorem dX1_lighten_22 : decode cX1_lighten 22 = .ok (.ireturn, 1) := by decide +kernel
theorem dX1_lighten_23 : decode cX1_lighten 23 = .ok (.aload_n 0, 1) := by decide +kernel
theorem dX1_lighten_24 : decode cX1_lighten 24 = .ok (.getfield 9, 3) := by decide +kernel
theorem dX1_lighten_27 : decode cX1_lighten 27 = .ok (.iload_n 1, 1) := by decide +kernel
theorem dX1_lighten_28 : decode cX1_lighten 28 = .ok (.invokevirtual 164, 3) := by decide +kernel
theorem dX1_lighten_31 : decode cX1_lighten 31 = .ok (.aload_n 0, 1) := by decide +kernel
theorem dX1_lighten_32 : decode cX1_lighten 32 = .ok (.getfield 9, 3) := by decide +kernel
theorem dX1_lighten_35 : decode cX1_lighten 35 = .ok (.iload_n 1, 1) := by decide +kernel
theorem dX1_lighten_36 : decode cX1_lighten 36 = .ok (.invokevirtual 71, 3) := by decide +kernel
theorem dX1_lighten_39 : decode cX1_lighten 39 = .ok (.iload_n 2, 1) := by decide +kernel
theorem dX1_lighten_40 : decode cX1_lighten 40 = .ok (.if_icmp .gt 5, 3) := by decide +kernel
theorem dX1_lighten_43 : decode cX1_lighten 43 = .ok (.iconst 0, 1) := by decide +kernel
theorem dX1_lighten_44 : decode cX1_lighten 44 = .ok (.ireturn, 1) := by decide +kernel
theorem dX1_lighten_45 : decode cX1_lighten 45 = .ok (.aload_n 0, 1) := by decide +kernel
theorem dX1_lighten_46 : decode cX1_lighten 46 = .ok (.getfield 15, 3) := by decide +kernel
theorem dX1_lighten_49 : decode cX1_lighten 49 = .ok (.aload_n 0, 1) := by decide +kernel
theorem dX1_lighten_50 : decode cX1_lighten 50 = .ok (.getfield 9, 3) := by decide +kernel
theorem dX1_lighten_53 : decode cX1_lighten 53 = .ok (.getfield 85, 3) := by decide +kernel
theorem dX1_lighten_56 : decode cX1_lighten 56 = .ok (.aload_n 0, 1) := by decide +kernel
theorem dX1_lighten_57 : decode cX1_lighten 57 = .ok (.getfield 9, 3) := by decide +kernel
theorem dX1_lighten_60 : decode cX1_lighten 60 = .ok (.iload_n 1, 1) := by decide +kernel
theorem dX1_lighten_61 : decode cX1_lighten 61 = .ok (.invokevirtual 155, 3) := by decide +kernel
theorem dX1_lighten_64 : decode cX1_lighten 64 = .ok (.iload_n 2, 1) := by decide +kernel
theorem dX1_lighten_65 : decode cX1_lighten 65 = .ok (.invokevirtual 158, 3) := by decide +kernel
theorem dX1_lighten_68 : decode cX1_lighten 68 = .ok (.istore_n 3, 1) := by decide +kernel
theorem dX1_lighten_69 : decode cX1_lighten 69 = .ok (.iconst 0, 1) := by decide +kernel
theorem dX1_lighten_70 : decode cX1_lighten 70 = .ok (.istore 4, 2) := by decide +kernel
theorem dX1_lighten_72 : decode cX1_lighten 72 = .ok (.iconst 0, 1) := by decide +kernel
theorem dX1_lighten_73 : decode cX1_lighten 73 = .ok (.istore 5, 2) := by decide +kernel
theorem dX1_lighten_75 : decode cX1_lighten 75 = .ok (.iload 5, 2) := by decide +kernel
theorem dX1_lighten_77 : decode cX1_lighten 77 = .ok (.aload_n 0, 1) := by decide +kernel
theorem dX1_lighten_78 : decode cX1_lighten 78 = .ok (.getfield 9, 3) := by decide +kernel
theorem dX1_lighten_81 : decode cX1_lighten 81 = .ok (.getfield 85, 3) := by decide +kernel
theorem dX1_lighten_84 : decode cX1_lighten 84 = .ok (.getfield 137, 3) := by decide +kernel
theorem dX1_lighten_87 : decode cX1_lighten 87 = .ok (.getfield 42, 3) := by decide +kernel
theorem dX1_lighten_90 : decode cX1_lighten 90 = .ok (.if_icmp .ge 32, 3) := by decide +kernel
theorem dX1_lighten_93 : decode cX1_lighten 93 = .ok (.iload_n 3, 1) := by decide +kernel
theorem dX1_lighten_94 : decode cX1_lighten 94 = .ok (.iload 5, 2) := by decide +kernel
theorem dX1_lighten_96 : decode cX1_lighten 96 = .ok (.ishr, 1) := by decide +kernel
theorem dX1_lighten_97 : decode cX1_lighten 97 = .ok (.iconst 1, 1) := by decide +kernel
theorem dX1_lighten_98 : decode cX1_lighten 98 = .ok (.iand, 1) := by decide +kernel
theorem dX1_lighten_99 : decode cX1_lighten 99 = .ok (.ifCond .ne 17, 3) := by decide +kernel
theorem dX1_lighten_102 : decode cX1_lighten 102 = .ok (.aload_n 0, 1) := by decide +kernel
theorem dX1_lighten_103 : decode cX1_lighten 103 = .ok (.iload_n 1, 1) := by decide +kernel
theorem dX1_lighten_104 : decode cX1_lighten 104 = .ok (.iload 5, 2) := by decide +kernel
theorem dX1_lighten_106 : decode cX1_lighten 106 = .ok (.invokevirtual 179, 3) := by decide +kernel
theorem dX1_lighten_109 : decode cX1_lighten 109 = .ok (.iconst (-1), 1) := by decide +kernel
theorem dX1_lighten_110 : decode cX1_lighten 110 = .ok (.if_icmp .eq 6, 3) := by decide +kernel
theorem dX1_lighten_113 : decode cX1_lighten 113 = .ok (.iinc 4 1, 3) := by decide +kernel
theorem dX1_lighten_116 : decode cX1_lighten 116 = .ok (.iinc 5 1, 3) := by decide +kernel
theorem dX1_lighten_119 : decode cX1_lighten 119 = .ok (.goto (-44), 3) := by decide +kernel
theorem dX1_lighten_122 : decode cX1_lighten 122 = .ok (.iload 4, 2) := by decide +kernel
theorem dX1_lighten_124 : decode cX1_lighten 124 = .ok (.ireturn, 1) := by decide +kernel
theorem dX1_gainable_0 : decode cX1_gainable 0 = .ok (.iconst 0, 1) := by decide +kernel
theorem dX1_gainable_1 : decode cX1_gainable 1 = .ok (.istore_n 2, 1) := by decide +kernel
theorem dX1_gainable_2 : decode cX1_gainable 2 = .ok (.iconst 0, 1) := by decide +kernel
theorem dX1_gainable_3 : decode cX1_gainable 3 = .ok (.istore_n 3, 1) := by decide +kernel
theorem dX1_gainable_4 : decode cX1_gainable 4 = .ok (.iload_n 3, 1) := by decide +kernel
theorem dX1_gainable_5 : decode cX1_gainable 5 = .ok (.aload_n 0, 1) := by decide +kernel
theorem dX1_gainable_6 : decode cX1_gainable 6 = .ok (.getfield 9, 3) := by decide +kernel
theorem dX1_gainable_9 : decode cX1_gainable 9 = .ok (.getfield 85, 3) := by decide +kernel
theorem dX1_gainable_12 : decode cX1_gainable 12 = .ok (.getfield 137, 3) := by decide +kernel
theorem dX1_gainable_15 : decode cX1_gainable 15 = .ok (.getfield 42, 3) := by decide +kernel
theorem dX1_gainable_18 : decode cX1_gainable 18 = .ok (.if_icmp .ge 30, 3) := by decide +kernel
theorem dX1_gainable_21 : decode cX1_gainable 21 = .ok (.iload_n 2, 1) := by decide +kernel
theorem dX1_gainable_22 : decode cX1_gainable 22 = .ok (.aload_n 0, 1) := by decide +kernel
theorem dX1_gainable_23 : decode cX1_gainable 23 = .ok (.getfield 9, 3) := by decide +kernel
theorem dX1_gainable_26 : decode cX1_gainable 26 = .ok (.iload_n 1, 1) := by decide +kernel
theorem dX1_gainable_27 : decode cX1_gainable 27 = .ok (.iload_n 3, 1) := by decide +kernel
theorem dX1_gainable_28 : decode cX1_gainable 28 = .ok (.invokevirtual 57, 3) := by decide +kernel
theorem dX1_gainable_31 : decode cX1_gainable 31 = .ok (.iconst (-1), 1) := by decide +kernel
theorem dX1_gainable_32 : decode cX1_gainable 32 = .ok (.if_icmp .ne 7, 3) := by decide +kernel
theorem dX1_gainable_35 : decode cX1_gainable 35 = .ok (.iconst 0, 1) := by decide +kernel
theorem dX1_gainable_36 : decode cX1_gainable 36 = .ok (.goto 4, 3) := by decide +kernel
theorem dX1_gainable_39 : decode cX1_gainable 39 = .ok (.iconst 1, 1) := by decide +kernel
theorem dX1_gainable_40 : decode cX1_gainable 40 = .ok (.iadd, 1) := by decide +kernel
theorem dX1_gainable_41 : decode cX1_gainable 41 = .ok (.istore_n 2, 1) := by decide +kernel
theorem dX1_gainable_42 : decode cX1_gainable 42 = .ok (.iinc 3 1, 3) := by decide +kernel
theorem dX1_gainable_45 : decode cX1_gainable 45 = .ok (.goto (-41), 3) := by decide +kernel
theorem dX1_gainable_48 : decode cX1_gainable 48 = .ok (.iload_n 2, 1) := by decide +kernel
theorem dX1_gainable_49 : decode cX1_gainable 49 = .ok (.ireturn, 1) := by decide +kernel
theorem dX1_gainableAt_0 : decode cX1_gainableAt 0 = .ok (.iconst 0, 1) := by decide +kernel
theorem dX1_gainableAt_1 : decode cX1_gainableAt 1 = .ok (.istore_n 3, 1) := by decide +kernel
theorem dX1_gainableAt_2 : decode cX1_gainableAt 2 = .ok (.iconst 0, 1) := by decide +kernel
theorem dX1_gainableAt_3 : decode cX1_gainableAt 3 = .ok (.istore 4, 2) := by decide +kernel
theorem dX1_gainableAt_5 : decode cX1_gainableAt 5 = .ok (.iload 4, 2) := by decide +kernel
theorem dX1_gainableAt_7 : decode cX1_gainableAt 7 = .ok (.aload_n 0, 1) := by decide +kernel
theorem dX1_gainableAt_8 : decode cX1_gainableAt 8 = .ok (.getfield 9, 3) := by decide +kernel
theorem dX1_gainableAt_11 : decode cX1_gainableAt 11 = .ok (.getfield 85, 3) := by decide +kernel
theorem dX1_gainableAt_14 : decode cX1_gainableAt 14 = .ok (.getfield 137, 3) := by decide +kernel
theorem dX1_gainableAt_17 : decode cX1_gainableAt 17 = .ok (.getfield 42, 3) := by decide +kernel
theorem dX1_gainableAt_20 : decode cX1_gainableAt 20 = .ok (.if_icmp .ge 39, 3) := by decide +kernel
theorem dX1_gainableAt_23 : decode cX1_gainableAt 23 = .ok (.iload_n 3, 1) := by decide +kernel
theorem dX1_gainableAt_24 : decode cX1_gainableAt 24 = .ok (.aload_n 0, 1) := by decide +kernel
theorem dX1_gainableAt_25 : decode cX1_gainableAt 25 = .ok (.getfield 9, 3) := by decide +kernel
theorem dX1_gainableAt_28 : decode cX1_gainableAt 28 = .ok (.iload_n 1, 1) := by decide +kernel
theorem dX1_gainableAt_29 : decode cX1_gainableAt 29 = .ok (.iload 4, 2) := by decide +kernel
theorem dX1_gainableAt_31 : decode cX1_gainableAt 31 = .ok (.invokevirtual 57, 3) := by decide +kernel
theorem dX1_gainableAt_34 : decode cX1_gainableAt 34 = .ok (.iconst (-1), 1) := by decide +kernel
theorem dX1_gainableAt_35 : decode cX1_gainableAt 35 = .ok (.if_icmp .ne 7, 3) := by decide +kernel
theorem dX1_gainableAt_38 : decode cX1_gainableAt 38 = .ok (.iconst 0, 1) := by decide +kernel
theorem dX1_gainableAt_39 : decode cX1_gainableAt 39 = .ok (.goto 4, 3) := by decide +kernel
theorem dX1_gainableAt_42 : decode cX1_gainableAt 42 = .ok (.iconst 1, 1) := by decide +kernel
theorem dX1_gainableAt_43 : decode cX1_gainableAt 43 = .ok (.iadd, 1) := by decide +kernel
theorem dX1_gainableAt_44 : decode cX1_gainableAt 44 = .ok (.istore_n 3, 1) := by decide +kernel
theorem dX1_gainableAt_45 : decode cX1_gainableAt 45 = .ok (.iload_n 3, 1) := by decide +kernel
theorem dX1_gainableAt_46 : decode cX1_gainableAt 46 = .ok (.iload_n 2, 1) := by decide +kernel
theorem dX1_gainableAt_47 : decode cX1_gainableAt 47 = .ok (.if_icmp .ne 6, 3) := by decide +kernel
theorem dX1_gainableAt_50 : decode cX1_gainableAt 50 = .ok (.iload 4, 2) := by decide +kernel
theorem dX1_gainableAt_52 : decode cX1_gainableAt 52 = .ok (.ireturn, 1) := by decide +kernel
theorem dX1_gainableAt_53 : decode cX1_gainableAt 53 = .ok (.iinc 4 1, 3) := by decide +kernel
theorem dX1_gainableAt_56 : decode cX1_gainableAt 56 = .ok (.goto (-51), 3) := by decide +kernel
theorem dX1_gainableAt_59 : decode cX1_gainableAt 59 = .ok (.iconst (-1), 1) := by decide +kernel
theorem dX1_gainableAt_60 : decode cX1_gainableAt 60 = .ok (.ireturn, 1) := by decide +kernel
theorem dX1_draw_0 : decode cX1_draw 0 = .ok (.aload_n 0, 1) := by decide +kernel
theorem dX1_draw_1 : decode cX1_draw 1 = .ok (.ldc2_w 182, 3) := by decide +kernel
theorem dX1_draw_4 : decode cX1_draw 4 = .ok (.aload_n 0, 1) := by decide +kernel
theorem dX1_draw_5 : decode cX1_draw 5 = .ok (.getfield 35, 3) := by decide +kernel
theorem dX1_draw_8 : decode cX1_draw 8 = .ok (.lmul, 1) := by decide +kernel
theorem dX1_draw_9 : decode cX1_draw 9 = .ok (.ldc2_w 184, 3) := by decide +kernel
theorem dX1_draw_12 : decode cX1_draw 12 = .ok (.ladd, 1) := by decide +kernel
theorem dX1_draw_13 : decode cX1_draw 13 = .ok (.ldc2_w 186, 3) := by decide +kernel
theorem dX1_draw_16 : decode cX1_draw 16 = .ok (.lrem, 1) := by decide +kernel
theorem dX1_draw_17 : decode cX1_draw 17 = .ok (.putfield 35, 3) := by decide +kernel
theorem dX1_draw_20 : decode cX1_draw 20 = .ok (.iload_n 1, 1) := by decide +kernel
theorem dX1_draw_21 : decode cX1_draw 21 = .ok (.ifCond .gt 7, 3) := by decide +kernel
theorem dX1_draw_24 : decode cX1_draw 24 = .ok (.iconst 0, 1) := by decide +kernel
theorem dX1_draw_25 : decode cX1_draw 25 = .ok (.goto 15, 3) := by decide +kernel
theorem dX1_draw_28 : decode cX1_draw 28 = .ok (.aload_n 0, 1) := by decide +kernel
theorem dX1_draw_29 : decode cX1_draw 29 = .ok (.getfield 35, 3) := by decide +kernel
theorem dX1_draw_32 : decode cX1_draw 32 = .ok (.ldc2_w 188, 3) := by decide +kernel
theorem dX1_draw_35 : decode cX1_draw 35 = .ok (.ldiv, 1) := by decide +kernel
theorem dX1_draw_36 : decode cX1_draw 36 = .ok (.iload_n 1, 1) := by decide +kernel
theorem dX1_draw_37 : decode cX1_draw 37 = .ok (.i2l, 1) := by decide +kernel
theorem dX1_draw_38 : decode cX1_draw 38 = .ok (.lrem, 1) := by decide +kernel
theorem dX1_draw_39 : decode cX1_draw 39 = .ok (.l2i, 1) := by decide +kernel
theorem dX1_draw_40 : decode cX1_draw 40 = .ok (.ireturn, 1) := by decide +kernel
theorem dX1_sow_0 : decode cX1_sow 0 = .ok (.iload_n 1, 1) := by decide +kernel
theorem dX1_sow_1 : decode cX1_sow 1 = .ok (.ifCond .ge 5, 3) := by decide +kernel
theorem dX1_sow_4 : decode cX1_sow 4 = .ok (.iconst 0, 1) := by decide +kernel
theorem dX1_sow_5 : decode cX1_sow 5 = .ok (.ireturn, 1) := by decide +kernel
theorem dX1_sow_6 : decode cX1_sow 6 = .ok (.aload_n 0, 1) := by decide +kernel
theorem dX1_sow_7 : decode cX1_sow 7 = .ok (.iload_n 1, 1) := by decide +kernel
theorem dX1_sow_8 : decode cX1_sow 8 = .ok (.i2l, 1) := by decide +kernel
theorem dX1_sow_9 : decode cX1_sow 9 = .ok (.putfield 35, 3) := by decide +kernel
theorem dX1_sow_12 : decode cX1_sow 12 = .ok (.iconst 1, 1) := by decide +kernel
theorem dX1_sow_13 : decode cX1_sow 13 = .ok (.ireturn, 1) := by decide +kernel
theorem dX2_settle_0 : decode cX2_settle 0 = .ok (.aload_n 0, 1) := by decide +kernel
theorem dX2_settle_1 : decode cX2_settle 1 = .ok (.aload_n 1, 1) := by decide +kernel
theorem dX2_settle_2 : decode cX2_settle 2 = .ok (.putfield 9, 3) := by decide +kernel
theorem dX2_settle_5 : decode cX2_settle 5 = .ok (.aload_n 0, 1) := by decide +kernel
theorem dX2_settle_6 : decode cX2_settle 6 = .ok (.aload_n 0, 1) := by decide +kernel
theorem dX2_settle_7 : decode cX2_settle 7 = .ok (.getfield 9, 3) := by decide +kernel
theorem dX2_settle_10 : decode cX2_settle 10 = .ok (.getfield 60, 3) := by decide +kernel
theorem dX2_settle_13 : decode cX2_settle 13 = .ok (.putfield 15, 3) := by decide +kernel
theorem dX2_settle_16 : decode cX2_settle 16 = .ok (.aload_n 0, 1) := by decide +kernel
theorem dX2_settle_17 : decode cX2_settle 17 = .ok (.iconst 0, 1) := by decide +kernel
theorem dX2_settle_18 : decode cX2_settle 18 = .ok (.putfield 19, 3) := by decide +kernel
theorem dX2_settle_21 : decode cX2_settle 21 = .ok (.aload_n 0, 1) := by decide +kernel
theorem dX2_settle_22 : decode cX2_settle 22 = .ok (.iconst 0, 1) := by decide +kernel
theorem dX2_settle_23 : decode cX2_settle 23 = .ok (.putfield 22, 3) := by decide +kernel
theorem dX2_settle_26 : decode cX2_settle 26 = .ok (.aload_n 0, 1) := by decide +kernel
theorem dX2_settle_27 : decode cX2_settle 27 = .ok (.getfield 29, 3) := by decide +kernel
theorem dX2_settle_30 : decode cX2_settle 30 = .ok (.iconst 0, 1) := by decide +kernel
theorem dX2_settle_31 : decode cX2_settle 31 = .ok (.invokestatic 63, 3) := by decide +kernel
theorem dX2_settle_34 : decode cX2_settle 34 = .ok (.aload_n 0, 1) := by decide +kernel
theorem dX2_settle_35 : decode cX2_settle 35 = .ok (.getfield 9, 3) := by decide +kernel
theorem dX2_settle_38 : decode cX2_settle 38 = .ok (.getfield 69, 3) := by decide +kernel
theorem dX2_settle_41 : decode cX2_settle 41 = .ok (.iconst 0, 1) := by decide +kernel
theorem dX2_settle_42 : decode cX2_settle 42 = .ok (.aload_n 0, 1) := by decide +kernel
theorem dX2_settle_43 : decode cX2_settle 43 = .ok (.getfield 25, 3) := by decide +kernel
theorem dX2_settle_46 : decode cX2_settle 46 = .ok (.iconst 0, 1) := by decide +kernel
theorem dX2_settle_47 : decode cX2_settle 47 = .ok (.bipush 8, 2) := by decide +kernel
theorem dX2_settle_49 : decode cX2_settle 49 = .ok (.invokestatic 72, 3) := by decide +kernel
theorem dX2_settle_52 : decode cX2_settle 52 = .ok (.aload_n 0, 1) := by decide +kernel
theorem dX2_settle_53 : decode cX2_settle 53 = .ok (.getfield 9, 3) := by decide +kernel
theorem dX2_settle_56 : decode cX2_settle 56 = .ok (.getfield 78, 3) := by decide +kernel
theorem dX2_settle_59 : decode cX2_settle 59 = .ok (.iconst 0, 1) := by decide +kernel
theorem dX2_settle_60 : decode cX2_settle 60 = .ok (.aload_n 0, 1) := by decide +kernel
theorem dX2_settle_61 : decode cX2_settle 61 = .ok (.getfield 29, 3) := by decide +kernel
theorem dX2_settle_64 : decode cX2_settle 64 = .ok (.sipush 208, 3) := by decide +kernel
theorem dX2_settle_67 : decode cX2_settle 67 = .ok (.bipush 26, 2) := by decide +kernel
theorem dX2_settle_69 : decode cX2_settle 69 = .ok (.invokestatic 72, 3) := by decide +kernel
theorem dX2_settle_72 : decode cX2_settle 72 = .ok (.aload_n 0, 1) := by decide +kernel
theorem dX2_settle_73 : decode cX2_settle 73 = .ok (.invokevirtual 81, 3) := by decide +kernel
theorem dX2_settle_76 : decode cX2_settle 76 = .ok (.return_, 1) := by decide +kernel
theorem dX2_bearAnew_0 : decode cX2_bearAnew 0 = .ok (.aload_n 0, 1) := by decide +kernel
theorem dX2_bearAnew_1 : decode cX2_bearAnew 1 = .ok (.getfield 49, 3) := by decide +kernel
theorem dX2_bearAnew_4 : decode cX2_bearAnew 4 = .ok (.invokevirtual 84, 3) := by decide +kernel
theorem dX2_bearAnew_7 : decode cX2_bearAnew 7 = .ok (.aload_n 0, 1) := by decide +kernel
theorem dX2_bearAnew_8 : decode cX2_bearAnew 8 = .ok (.getfield 35, 3) := by decide +kernel
theorem dX2_bearAnew_11 : decode cX2_bearAnew 11 = .ok (.aload_n 0, 1) := by decide +kernel
theorem dX2_bearAnew_12 : decode cX2_bearAnew 12 = .ok (.getfield 15, 3) := by decide +kernel
theorem dX2_bearAnew_15 : decode cX2_bearAnew 15 = .ok (.invokestatic 63, 3) := by decide +kernel
theorem dX2_bearAnew_18 : decode cX2_bearAnew 18 = .ok (.return_, 1) := by decide +kernel
theorem dX2_isPerson_0 : decode cX2_isPerson 0 = .ok (.aload_n 0, 1) := by decide +kernel
theorem dX2_isPerson_1 : decode cX2_isPerson 1 = .ok (.getfield 9, 3) := by decide +kernel
theorem dX2_isPerson_4 : decode cX2_isPerson 4 = .ok (.getfield 87, 3) := by decide +kernel
theorem dX2_isPerson_7 : decode cX2_isPerson 7 = .ok (.iload_n 1, 1) := by decide +kernel
theorem dX2_isPerson_8 : decode cX2_isPerson 8 = .ok (.invokevirtual 91, 3) := by decide +kernel
theorem dX2_isPerson_11 : decode cX2_isPerson 11 = .ok (.ireturn, 1) := by decide +kernel
theorem dX2_bears_0 : decode cX2_bears 0 = .ok (.aload_n 0, 1) := by decide +kernel
theorem dX2_bears_1 : decode cX2_bears 1 = .ok (.getfield 9, 3) := by decide +kernel
theorem dX2_bears_4 : decode cX2_bears 4 = .ok (.getfield 87, 3) := by decide +kernel
theorem dX2_bears_7 : decode cX2_bears 7 = .ok (.iload_n 1, 1) := by decide +kernel
theorem dX2_bears_8 : decode cX2_bears 8 = .ok (.invokevirtual 91, 3) := by decide +kernel
theorem dX2_bears_11 : decode cX2_bears 11 = .ok (.ifCond .eq 34, 3) := by decide +kernel
theorem dX2_bears_14 : decode cX2_bears 14 = .ok (.aload_n 0, 1) := by decide +kernel
theorem dX2_bears_15 : decode cX2_bears 15 = .ok (.getfield 9, 3) := by decide +kernel
theorem dX2_bears_18 : decode cX2_bears 18 = .ok (.getfield 97, 3) := by decide +kernel
theorem dX2_bears_21 : decode cX2_bears 21 = .ok (.iload_n 2, 1) := by decide +kernel
theorem dX2_bears_22 : decode cX2_bears 22 = .ok (.invokevirtual 91, 3) := by decide +kernel
theorem dX2_bears_25 : decode cX2_bears 25 = .ok (.ifCond .eq 20, 3) := by decide +kernel
theorem dX2_bears_28 : decode cX2_bears 28 = .ok (.aload_n 0, 1) := by decide +kernel
theorem dX2_bears_29 : decode cX2_bears 29 = .ok (.getfield 25, 3) := by decide +kernel
theorem dX2_bears_32 : decode cX2_bears 32 = .ok (.iload_n 1, 1) := by decide +kernel
theorem dX2_bears_33 : decode cX2_bears 33 = .ok (.iaload, 1) := by decide +kernel
theorem dX2_bears_34 : decode cX2_bears 34 = .ok (.iload_n 2, 1) := by decide +kernel
theorem dX2_bears_35 : decode cX2_bears 35 = .ok (.ishr, 1) := by decide +kernel
theorem dX2_bears_36 : decode cX2_bears 36 = .ok (.iconst 1, 1) := by decide +kernel
theorem dX2_bears_37 : decode cX2_bears 37 = .ok (.iand, 1) := by decide +kernel
theorem dX2_bears_38 : decode cX2_bears 38 = .ok (.ifCond .eq 7, 3) := by decide +kernel
theorem dX2_bears_41 : decode cX2_bears 41 = .ok (.iconst 1, 1) := by decide +kernel
theorem dX2_bears_42 : decode cX2_bears 42 = .ok (.goto 4, 3) := by decide +kernel
theorem dX2_bears_45 : decode cX2_bears 45 = .ok (.iconst 0, 1) := by decide +kernel
theorem dX2_bears_46 : decode cX2_bears 46 = .ok (.ireturn, 1) := by decide +kernel
theorem dX2_lacks_0 : decode cX2_lacks 0 = .ok (.aload_n 0, 1) := by decide +kernel
theorem dX2_lacks_1 : decode cX2_lacks 1 = .ok (.getfield 9, 3) := by decide +kernel
theorem dX2_lacks_4 : decode cX2_lacks 4 = .ok (.getfield 87, 3) := by decide +kernel
theorem dX2_lacks_7 : decode cX2_lacks 7 = .ok (.iload_n 1, 1) := by decide +kernel
theorem dX2_lacks_8 : decode cX2_lacks 8 = .ok (.invokevirtual 91, 3) := by decide +kernel
theorem dX2_lacks_11 : decode cX2_lacks 11 = .ok (.ifCond .eq 30, 3) := by decide +kernel
theorem dX2_lacks_14 : decode cX2_lacks 14 = .ok (.aload_n 0, 1) := by decide +kernel
theorem dX2_lacks_15 : decode cX2_lacks 15 = .ok (.getfield 9, 3) := by decide +kernel
theorem dX2_lacks_18 : decode cX2_lacks 18 = .ok (.getfield 97, 3) := by decide +kernel
theorem dX2_lacks_21 : decode cX2_lacks 21 = .ok (.iload_n 2, 1) := by decide +kernel
theorem dX2_lacks_22 : decode cX2_lacks 22 = .ok (.invokevirtual 91, 3) := by decide +kernel
theorem dX2_lacks_25 : decode cX2_lacks 25 = .ok (.ifCond .eq 16, 3) := by decide +kernel
theorem dX2_lacks_28 : decode cX2_lacks 28 = .ok (.aload_n 0, 1) := by decide +kernel
theorem dX2_lacks_29 : decode cX2_lacks 29 = .ok (.iload_n 1, 1) := by decide +kernel
theorem dX2_lacks_30 : decode cX2_lacks 30 = .ok (.iload_n 2, 1) := by decide +kernel
theorem dX2_lacks_31 : decode cX2_lacks 31 = .ok (.invokevirtual 99, 3) := by decide +kernel
theorem dX2_lacks_34 : decode cX2_lacks 34 = .ok (.ifCond .ne 7, 3) := by decide +kernel
theorem dX2_lacks_37 : decode cX2_lacks 37 = .ok (.iconst 1, 1) := by decide +kernel
theorem dX2_lacks_38 : decode cX2_lacks 38 = .ok (.goto 4, 3) := by decide +kernel
theorem dX2_lacks_41 : decode cX2_lacks 41 = .ok (.iconst 0, 1) := by decide +kernel
theorem dX2_lacks_42 : decode cX2_lacks 42 = .ok (.ireturn, 1) := by decide +kernel
theorem dX2_titlesOf_0 : decode cX2_titlesOf 0 = .ok (.iload_n 1, 1) := by decide +kernel
theorem dX2_titlesOf_1 : decode cX2_titlesOf 1 = .ok (.ifCond .lt 18, 3) := by decide +kernel
theorem dX2_titlesOf_4 : decode cX2_titlesOf 4 = .ok (.iload_n 1, 1) := by decide +kernel
theorem dX2_titlesOf_5 : decode cX2_titlesOf 5 = .ok (.bipush 8, 2) := by decide +kernel
theorem dX2_titlesOf_7 : decode cX2_titlesOf 7 = .ok (.if_icmp .ge 12, 3) := by decide +kernel
theorem dX2_titlesOf_10 : decode cX2_titlesOf 10 = .ok (.aload_n 0, 1) := by decide +kernel
theorem dX2_titlesOf_11 : decode cX2_titlesOf 11 = .ok (.getfield 25, 3) := by decide +kernel
theorem dX2_titlesOf_14 : decode cX2_titlesOf 14 = .ok (.iload_n 1, 1) := by decide +kernel
theorem dX2_titlesOf_15 : decode cX2_titlesOf 15 = .ok (.iaload, 1) := by decide +kernel
theorem dX2_titlesOf_16 : decode cX2_titlesOf 16 = .ok (.goto 4, 3) := by decide +kernel
theorem dX2_titlesOf_19 : decode cX2_titlesOf 19 = .ok (.iconst 0, 1) := by decide +kernel
theorem dX2_titlesOf_20 : decode cX2_titlesOf 20 = .ok (.ireturn, 1) := by decide +kernel
theorem dX2_bearers_0 : decode cX2_bearers 0 = .ok (.iconst 0, 1) := by decide +kernel
theorem dX2_bearers_1 : decode cX2_bearers 1 = .ok (.istore_n 2, 1) := by decide +kernel
theorem dX2_bearers_2 : decode cX2_bearers 2 = .ok (.iconst 0, 1) := by decide +kernel
theorem dX2_bearers_3 : decode cX2_bearers 3 = .ok (.istore_n 3, 1) := by decide +kernel
theorem dX2_bearers_4 : decode cX2_bearers 4 = .ok (.iload_n 3, 1) := by decide +kernel
theorem dX2_bearers_5 : decode cX2_bearers 5 = .ok (.aload_n 0, 1) := by decide +kernel
theorem dX2_bearers_6 : decode cX2_bearers 6 = .ok (.getfield 9, 3) := by decide +kernel
theorem dX2_bearers_9 : decode cX2_bearers 9 = .ok (.getfield 87, 3) := by decide +kernel
theorem dX2_bearers_12 : decode cX2_bearers 12 = .ok (.getfield 103, 3) := by decide +kernel
theorem dX2_bearers_15 : decode cX2_bearers 15 = .ok (.if_icmp .ge 24, 3) := by decide +kernel
theorem dX2_bearers_18 : decode cX2_bearers 18 = .ok (.aload_n 0, 1) := by decide +kernel
theorem dX2_bearers_19 : decode cX2_bearers 19 = .ok (.iload_n 3, 1) := by decide +kernel
theorem dX2_bearers_20 : decode cX2_bearers 20 = .ok (.iload_n 1, 1) := by decide +kernel
theorem dX2_bearers_21 : decode cX2_bearers 21 = .ok (.invokevirtual 99, 3) := by decide +kernel
theorem dX2_bearers_24 : decode cX2_bearers 24 = .ok (.ifCond .eq 9, 3) := by decide +kernel
theorem dX2_bearers_27 : decode cX2_bearers 27 = .ok (.iload_n 2, 1) := by decide +kernel
theorem dX2_bearers_28 : decode cX2_bearers 28 = .ok (.iconst 1, 1) := by decide +kernel
theorem dX2_bearers_29 : decode cX2_bearers 29 = .ok (.iload_n 3, 1) := by decide +kernel
theorem dX2_bearers_30 : decode cX2_bearers 30 = .ok (.ishl, 1) := by decide +kernel
theorem dX2_bearers_31 : decode cX2_bearers 31 = .ok (.ior, 1) := by decide +kernel
theorem dX2_bearers_32 : decode cX2_bearers 32 = .ok (.istore_n 2, 1) := by decide +kernel
theorem dX2_bearers_33 : decode cX2_bearers 33 = .ok (.iinc 3 1, 3) := by decide +kernel
theorem dX2_bearers_36 : decode cX2_bearers 36 = .ok (.goto (-32), 3) := by decide +kernel
theorem dX2_bearers_39 : decode cX2_bearers 39 = .ok (.iload_n 2, 1) := by decide +kernel
theorem dX2_bearers_40 : decode cX2_bearers 40 = .ok (.ireturn, 1) := by decide +kernel
theorem dX2_come_0 : decode cX2_come 0 = .ok (.aload_n 0, 1) := by decide +kernel
theorem dX2_come_1 : decode cX2_come 1 = .ok (.iload_n 1, 1) := by decide +kernel
theorem dX2_come_2 : decode cX2_come 2 = .ok (.iload_n 2, 1) := by decide +kernel
theorem dX2_come_3 : decode cX2_come 3 = .ok (.invokevirtual 106, 3) := by decide +kernel
theorem dX2_come_6 : decode cX2_come 6 = .ok (.ifCond .eq 30, 3) := by decide +kernel
theorem dX2_come_9 : decode cX2_come 9 = .ok (.aload_n 0, 1) := by decide +kernel
theorem dX2_come_10 : decode cX2_come 10 = .ok (.getfield 25, 3) := by decide +kernel
theorem dX2_come_13 : decode cX2_come 13 = .ok (.iload_n 1, 1) := by decide +kernel
theorem dX2_come_14 : decode cX2_come 14 = .ok (.dup2, 1) := by decide +kernel
theorem dX2_come_15 : decode cX2_come 15 = .ok (.iaload, 1) := by decide +kernel
theorem dX2_come_16 : decode cX2_come 16 = .ok (.iconst 1, 1) := by decide +kernel
theorem dX2_come_17 : decode cX2_come 17 = .ok (.iload_n 2, 1) := by decide +kernel
theorem dX2_come_18 : decode cX2_come 18 = .ok (.ishl, 1) := by decide +kernel
theorem dX2_come_19 : decode cX2_come 19 = .ok (.ior, 1) := by decide +kernel
theorem dX2_come_20 : decode cX2_come 20 = .ok (.iastore, 1) := by decide +kernel
theorem dX2_come_21 : decode cX2_come 21 = .ok (.aload_n 0, 1) := by decide +kernel
theorem dX2_come_22 : decode cX2_come 22 = .ok (.getfield 35, 3) := by decide +kernel
theorem dX2_come_25 : decode cX2_come 25 = .ok (.iload_n 1, 1) := by decide +kernel
theorem dX2_come_26 : decode cX2_come 26 = .ok (.bipush 12, 2) := by decide +kernel
theorem dX2_come_28 : decode cX2_come 28 = .ok (.imul, 1) := by decide +kernel
theorem dX2_come_29 : decode cX2_come 29 = .ok (.iload_n 2, 1) := by decide +kernel
theorem dX2_come_30 : decode cX2_come 30 = .ok (.iadd, 1) := by decide +kernel
theorem dX2_come_31 : decode cX2_come 31 = .ok (.aload_n 0, 1) := by decide +kernel
theorem dX2_come_32 : decode cX2_come 32 = .ok (.getfield 15, 3) := by decide +kernel
theorem dX2_come_35 : decode cX2_come 35 = .ok (.iastore, 1) := by decide +kernel
theorem dX2_come_36 : decode cX2_come 36 = .ok (.return_, 1) := by decide +kernel
theorem dX2_go_0 : decode cX2_go 0 = .ok (.aload_n 0, 1) := by decide +kernel
theorem dX2_go_1 : decode cX2_go 1 = .ok (.iload_n 1, 1) := by decide +kernel
theorem dX2_go_2 : decode cX2_go 2 = .ok (.iload_n 2, 1) := by decide +kernel
theorem dX2_go_3 : decode cX2_go 3 = .ok (.invokevirtual 99, 3) := by decide +kernel
theorem dX2_go_6 : decode cX2_go 6 = .ok (.ifCond .eq 73, 3) := by decide +kernel
theorem dX2_go_9 : decode cX2_go 9 = .ok (.aload_n 0, 1) := by decide +kernel
theorem dX2_go_10 : decode cX2_go 10 = .ok (.getfield 25, 3) := by decide +kernel
theorem dX2_go_13 : decode cX2_go 13 = .ok (.iload_n 1, 1) := by decide +kernel
theorem dX2_go_14 : decode cX2_go 14 = .ok (.dup2, 1) := by decide +kernel
theorem dX2_go_15 : decode cX2_go 15 = .ok (.iaload, 1) := by decide +kernel
theorem dX2_go_16 : decode cX2_go 16 = .ok (.iconst 1, 1) := by decide +kernel
theorem dX2_go_17 : decode cX2_go 17 = .ok (.iload_n 2, 1) := by decide +kernel
theorem dX2_go_18 : decode cX2_go 18 = .ok (.ishl, 1) := by decide +kernel
theorem dX2_go_19 : decode cX2_go 19 = .ok (.iconst (-1), 1) := by decide +kernel
theorem dX2_go_20 : decode cX2_go 20 = .ok (.ixor, 1) := by decide +kernel
theorem dX2_go_21 : decode cX2_go 21 = .ok (.iand, 1) := by decide +kernel
theorem dX2_go_22 : decode cX2_go 22 = .ok (.iastore, 1) := by decide +kernel
theorem dX2_go_23 : decode cX2_go 23 = .ok (.aload_n 0, 1) := by decide +kernel
theorem dX2_go_24 : decode cX2_go 24 = .ok (.getfield 49, 3) := by decide +kernel
theorem dX2_go_27 : decode cX2_go 27 = .ok (.invokevirtual 109, 3) := by decide +kernel
theorem dX2_go_30 : decode cX2_go 30 = .ok (.aload_n 0, 1) := by decide +kernel
theorem dX2_go_31 : decode cX2_go 31 = .ok (.getfield 49, 3) := by decide +kernel
theorem dX2_go_34 : decode cX2_go 34 = .ok (.iconst 0, 1) := by decide +kernel
theorem dX2_go_35 : decode cX2_go 35 = .ok (.iload_n 1, 1) := by decide +kernel
theorem dX2_go_36 : decode cX2_go 36 = .ok (.invokevirtual 112, 3) := by decide +kernel
theorem dX2_go_39 : decode cX2_go 39 = .ok (.aload_n 0, 1) := by decide +kernel
theorem dX2_go_40 : decode cX2_go 40 = .ok (.getfield 49, 3) := by decide +kernel
theorem dX2_go_43 : decode cX2_go 43 = .ok (.iconst 1, 1) := by decide +kernel
theorem dX2_go_44 : decode cX2_go 44 = .ok (.iload_n 2, 1) := by decide +kernel
theorem dX2_go_45 : decode cX2_go 45 = .ok (.invokevirtual 112, 3) := by decide +kernel
theorem dX2_go_48 : decode cX2_go 48 = .ok (.aload_n 0, 1) := by decide +kernel
theorem dX2_go_49 : decode cX2_go 49 = .ok (.getfield 49, 3) := by decide +kernel
theorem dX2_go_52 : decode cX2_go 52 = .ok (.iconst 2, 1) := by decide +kernel
theorem dX2_go_53 : decode cX2_go 53 = .ok (.aload_n 0, 1) := by decide +kernel
theorem dX2_go_54 : decode cX2_go 54 = .ok (.getfield 35, 3) := by decide +kernel
theorem dX2_go_57 : decode cX2_go 57 = .ok (.iload_n 1, 1) := by decide +kernel
theorem dX2_go_58 : decode cX2_go 58 = .ok (.bipush 12, 2) := by decide +kernel
theorem dX2_go_60 : decode cX2_go 60 = .ok (.imul, 1) := by decide +kernel
theorem dX2_go_61 : decode cX2_go 61 = .ok (.iload_n 2, 1) := by decide +kernel
theorem dX2_go_62 : decode cX2_go 62 = .ok (.iadd, 1) := by decide +kernel
theorem dX2_go_63 : decode cX2_go 63 = .ok (.iaload, 1) := by decide +kernel
theorem dX2_go_64 : decode cX2_go 64 = .ok (.invokevirtual 112, 3) := by decide +kernel
theorem dX2_go_67 : decode cX2_go 67 = .ok (.aload_n 0, 1) := by decide +kernel
theorem dX2_go_68 : decode cX2_go 68 = .ok (.getfield 49, 3) := by decide +kernel
theorem dX2_go_71 : decode cX2_go 71 = .ok (.iconst 3, 1) := by decide +kernel
theorem dX2_go_72 : decode cX2_go 72 = .ok (.aload_n 0, 1) := by decide +kernel
theorem dX2_go_73 : decode cX2_go 73 = .ok (.getfield 15, 3) := by decide +kernel
theorem dX2_go_76 : decode cX2_go 76 = .ok (.invokevirtual 112, 3) := by decide +kernel
theorem dX2_go_79 : decode cX2_go 79 = .ok (.return_, 1) := by decide +kernel
theorem dX2_signers_0 : decode cX2_signers 0 = .ok (.iconst 0, 1) := by decide +kernel
theorem dX2_signers_1 : decode cX2_signers 1 = .ok (.istore_n 3, 1) := by decide +kernel
theorem dX2_signers_2 : decode cX2_signers 2 = .ok (.iconst 0, 1) := by decide +kernel
theorem dX2_signers_3 : decode cX2_signers 3 = .ok (.istore 4, 2) := by decide +kernel
theorem dX2_signers_5 : decode cX2_signers 5 = .ok (.iload 4, 2) := by decide +kernel
theorem dX2_signers_7 : decode cX2_signers 7 = .ok (.aload_n 0, 1) := by decide +kernel
theorem dX2_signers_8 : decode cX2_signers 8 = .ok (.getfield 49, 3) := by decide +kernel
theorem dX2_signers_11 : decode cX2_signers 11 = .ok (.getfield 115, 3) := by decide +kernel
theorem dX2_signers_14 : decode cX2_signers 14 = .ok (.if_icmp .ge 66, 3) := by decide +kernel
theorem dX2_signers_17 : decode cX2_signers 17 = .ok (.aload_n 0, 1) := by decide +kernel
theorem dX2_signers_18 : decode cX2_signers 18 = .ok (.getfield 49, 3) := by decide +kernel
theorem dX2_signers_21 : decode cX2_signers 21 = .ok (.iload 4, 2) := by decide +kernel
theorem dX2_signers_23 : decode cX2_signers 23 = .ok (.iconst 1, 1) := by decide +kernel
theorem dX2_signers_24 : decode cX2_signers 24 = .ok (.invokevirtual 116, 3) := by decide +kernel
theorem dX2_signers_27 : decode cX2_signers 27 = .ok (.iload_n 1, 1) := by decide +kernel
theorem dX2_signers_28 : decode cX2_signers 28 = .ok (.if_icmp .ne 46, 3) := by decide +kernel
theorem dX2_signers_31 : decode cX2_signers 31 = .ok (.aload_n 0, 1) := by decide +kernel
theorem dX2_signers_32 : decode cX2_signers 32 = .ok (.getfield 49, 3) := by decide +kernel
theorem dX2_signers_35 : decode cX2_signers 35 = .ok (.iload 4, 2) := by decide +kernel
theorem dX2_signers_37 : decode cX2_signers 37 = .ok (.iconst 2, 1) := by decide +kernel
theorem dX2_signers_38 : decode cX2_signers 38 = .ok (.invokevirtual 116, 3) := by decide +kernel
theorem dX2_signers_41 : decode cX2_signers 41 = .ok (.iload_n 2, 1) := by decide +kernel
theorem dX2_signers_42 : decode cX2_signers 42 = .ok (.if_icmp .gt 32, 3) := by decide +kernel
theorem dX2_signers_45 : decode cX2_signers 45 = .ok (.iload_n 2, 1) := by decide +kernel
theorem dX2_signers_46 : decode cX2_signers 46 = .ok (.aload_n 0, 1) := by decide +kernel
theorem dX2_signers_47 : decode cX2_signers 47 = .ok (.getfield 49, 3) := by decide +kernel
theorem dX2_signers_50 : decode cX2_signers 50 = .ok (.iload 4, 2) := by decide +kernel
theorem dX2_signers_52 : decode cX2_signers 52 = .ok (.iconst 3, 1) := by decide +kernel
theorem dX2_signers_53 : decode cX2_signers 53 = .ok (.invokevirtual 116, 3) := by decide +kernel
theorem dX2_signers_56 : decode cX2_signers 56 = .ok (.if_icmp .gt 18, 3) := by decide +kernel
theorem dX2_signers_59 : decode cX2_signers 59 = .ok (.iload_n 3, 1) := by decide +kernel
theorem dX2_signers_60 : decode cX2_signers 60 = .ok (.iconst 1, 1) := by decide +kernel
theorem dX2_signers_61 : decode cX2_signers 61 = .ok (.aload_n 0, 1) := by decide +kernel
theorem dX2_signers_62 : decode cX2_signers 62 = .ok (.getfield 49, 3) := by decide +kernel
theorem dX2_signers_65 : decode cX2_signers 65 = .ok (.iload 4, 2) := by decide +kernel
theorem dX2_signers_67 : decode cX2_signers 67 = .ok (.iconst 0, 1) := by decide +kernel
theorem dX2_signers_68 : decode cX2_signers 68 = .ok (.invokevirtual 116, 3) := by decide +kernel
theorem dX2_signers_71 : decode cX2_signers 71 = .ok (.ishl, 1) := by decide +kernel
theorem dX2_signers_72 : decode cX2_signers 72 = .ok (.ior, 1) := by decide +kernel
theorem dX2_signers_73 : decode cX2_signers 73 = .ok (.istore_n 3, 1) := by decide +kernel
theorem dX2_signers_74 : decode cX2_signers 74 = .ok (.iinc 4 1, 3) := by decide +kernel
theorem dX2_signers_77 : decode cX2_signers 77 = .ok (.goto (-72), 3) := by decide +kernel
theorem dX2_signers_80 : decode cX2_signers 80 = .ok (.iconst 0, 1) := by decide +kernel
theorem dX2_signers_81 : decode cX2_signers 81 = .ok (.istore 4, 2) := by decide +kernel
theorem dX2_signers_83 : decode cX2_signers 83 = .ok (.iload 4, 2) := by decide +kernel
theorem dX2_signers_85 : decode cX2_signers 85 = .ok (.aload_n 0, 1) := by decide +kernel
theorem dX2_signers_86 : decode cX2_signers 86 = .ok (.getfield 9, 3) := by decide +kernel
theorem dX2_signers_89 : decode cX2_signers 89 = .ok (.getfield 87, 3) := by decide +kernel
theorem dX2_signers_92 : decode cX2_signers 92 = .ok (.getfield 103, 3) := by decide +kernel
theorem dX2_signers_95 : decode cX2_signers 95 = .ok (.if_icmp .ge 50, 3) := by decide +kernel
theorem dX2_signers_98 : decode cX2_signers 98 = .ok (.aload_n 0, 1) := by decide +kernel
theorem dX2_signers_99 : decode cX2_signers 99 = .ok (.iload 4, 2) := by decide +kernel
theorem dX2_signers_101 : decode cX2_signers 101 = .ok (.iload_n 1, 1) := by decide +kernel
theorem dX2_signers_102 : decode cX2_signers 102 = .ok (.invokevirtual 99, 3) := by decide +kernel
theorem dX2_signers_105 : decode cX2_signers 105 = .ok (.ifCond .eq 34, 3) := by decide +kernel
theorem dX2_signers_108 : decode cX2_signers 108 = .ok (.aload_n 0, 1) := by decide +kernel
theorem dX2_signers_109 : decode cX2_signers 109 = .ok (.getfield 35, 3) := by decide +kernel
theorem dX2_signers_112 : decode cX2_signers 112 = .ok (.iload 4, 2) := by decide +kernel
theorem dX2_signers_114 : decode cX2_signers 114 = .ok (.bipush 12, 2) := by decide +kernel
theorem dX2_signers_116 : decode cX2_signers 116 = .ok (.imul, 1) := by decide +kernel
theorem dX2_signers_117 : decode cX2_signers 117 = .ok (.iload_n 1, 1) := by decide +kernel
theorem dX2_signers_118 : decode cX2_signers 118 = .ok (.iadd, 1) := by decide +kernel
theorem dX2_signers_119 : decode cX2_signers 119 = .ok (.iaload, 1) := by decide +kernel
theorem dX2_signers_120 : decode cX2_signers 120 = .ok (.iload_n 2, 1) := by decide +kernel
theorem dX2_signers_121 : decode cX2_signers 121 = .ok (.if_icmp .gt 18, 3) := by decide +kernel
theorem dX2_signers_124 : decode cX2_signers 124 = .ok (.iload_n 2, 1) := by decide +kernel
theorem dX2_signers_125 : decode cX2_signers 125 = .ok (.aload_n 0, 1) := by decide +kernel
theorem dX2_signers_126 : decode cX2_signers 126 = .ok (.getfield 15, 3) := by decide +kernel
theorem dX2_signers_129 : decode cX2_signers 129 = .ok (.if_icmp .gt 10, 3) := by decide +kernel
theorem dX2_signers_132 : decode cX2_signers 132 = .ok (.iload_n 3, 1) := by decide +kernel
theorem dX2_signers_133 : decode cX2_signers 133 = .ok (.iconst 1, 1) := by decide +kernel
theorem dX2_signers_134 : decode cX2_signers 134 = .ok (.iload 4, 2) := by decide +kernel
theorem dX2_signers_136 : decode cX2_signers 136 = .ok (.ishl, 1) := by decide +kernel
theorem dX2_signers_137 : decode cX2_signers 137 = .ok (.ior, 1) := by decide +kernel
theorem dX2_signers_138 : decode cX2_signers 138 = .ok (.istore_n 3, 1) := by decide +kernel
theorem dX2_signers_139 : decode cX2_signers 139 = .ok (.iinc 4 1, 3) := by decide +kernel
theorem dX2_signers_142 : decode cX2_signers 142 = .ok (.goto (-59), 3) := by decide +kernel
theorem dX2_signers_145 : decode cX2_signers 145 = .ok (.iload_n 3, 1) := by decide +kernel
theorem dX2_signers_146 : decode cX2_signers 146 = .ok (.ireturn, 1) := by decide +kernel
theorem dX2_count_0 : decode cX2_count 0 = .ok (.iload_n 1, 1) := by decide +kernel
theorem dX2_count_1 : decode cX2_count 1 = .ok (.ifCond .lt 33, 3) := by decide +kernel
theorem dX2_count_4 : decode cX2_count 4 = .ok (.iload_n 1, 1) := by decide +kernel
theorem dX2_count_5 : decode cX2_count 5 = .ok (.bipush 8, 2) := by decide +kernel
theorem dX2_count_7 : decode cX2_count 7 = .ok (.if_icmp .gt 27, 3) := by decide +kernel
theorem dX2_count_10 : decode cX2_count 10 = .ok (.iload_n 2, 1) := by decide +kernel
theorem dX2_count_11 : decode cX2_count 11 = .ok (.ifCond .lt 23, 3) := by decide +kernel
theorem dX2_count_14 : decode cX2_count 14 = .ok (.iload_n 2, 1) := by decide +kernel
theorem dX2_count_15 : decode cX2_count 15 = .ok (.bipush 26, 2) := by decide +kernel
theorem dX2_count_17 : decode cX2_count 17 = .ok (.if_icmp .ge 17, 3) := by decide +kernel
theorem dX2_count_20 : decode cX2_count 20 = .ok (.aload_n 0, 1) := by decide +kernel
theorem dX2_count_21 : decode cX2_count 21 = .ok (.getfield 29, 3) := by decide +kernel
theorem dX2_count_24 : decode cX2_count 24 = .ok (.iload_n 1, 1) := by decide +kernel
theorem dX2_count_25 : decode cX2_count 25 = .ok (.bipush 26, 2) := by decide +kernel
theorem dX2_count_27 : decode cX2_count 27 = .ok (.imul, 1) := by decide +kernel
theorem dX2_count_28 : decode cX2_count 28 = .ok (.iload_n 2, 1) := by decide +kernel
theorem dX2_count_29 : decode cX2_count 29 = .ok (.iadd, 1) := by decide +kernel
theorem dX2_count_30 : decode cX2_count 30 = .ok (.iaload, 1) := by decide +kernel
theorem dX2_count_31 : decode cX2_count 31 = .ok (.goto 4, 3) := by decide +kernel
theorem dX2_count_34 : decode cX2_count 34 = .ok (.iconst 0, 1) := by decide +kernel
theorem dX2_count_35 : decode cX2_count 35 = .ok (.ireturn, 1) := by decide +kernel
theorem dX2_change_0 : decode cX2_change 0 = .ok (.iload_n 1, 1) := by decide +kernel
theorem dX2_change_1 : decode cX2_change 1 = .ok (.ifCond .lt 34, 3) := by decide +kernel
theorem dX2_change_4 : decode cX2_change 4 = .ok (.iload_n 1, 1) := by decide +kernel
theorem dX2_change_5 : decode cX2_change 5 = .ok (.bipush 8, 2) := by decide +kernel
theorem dX2_change_7 : decode cX2_change 7 = .ok (.if_icmp .gt 28, 3) := by decide +kernel
theorem dX2_change_10 : decode cX2_change 10 = .ok (.iload_n 2, 1) := by decide +kernel
theorem dX2_change_11 : decode cX2_change 11 = .ok (.ifCond .lt 24, 3) := by decide +kernel
theorem dX2_change_14 : decode cX2_change 14 = .ok (.iload_n 2, 1) := by decide +kernel
theorem dX2_change_15 : decode cX2_change 15 = .ok (.bipush 26, 2) := by decide +kernel
theorem dX2_change_17 : decode cX2_change 17 = .ok (.if_icmp .ge 18, 3) := by decide +kernel
theorem dX2_change_20 : decode cX2_change 20 = .ok (.aload_n 0, 1) := by decide +kernel
theorem dX2_change_21 : decode cX2_change 21 = .ok (.getfield 29, 3) := by decide +kernel
theorem dX2_change_24 : decode cX2_change 24 = .ok (.iload_n 1, 1) := by decide +kernel
theorem dX2_change_25 : decode cX2_change 25 = .ok (.bipush 26, 2) := by decide +kernel
theorem dX2_change_27 : decode cX2_change 27 = .ok (.imul, 1) := by decide +kernel
theorem dX2_change_28 : decode cX2_change 28 = .ok (.iload_n 2, 1) := by decide +kernel
theorem dX2_change_29 : decode cX2_change 29 = .ok (.iadd, 1) := by decide +kernel
theorem dX2_change_30 : decode cX2_change 30 = .ok (.dup2, 1) := by decide +kernel
theorem dX2_change_31 : decode cX2_change 31 = .ok (.iaload, 1) := by decide +kernel
theorem dX2_change_32 : decode cX2_change 32 = .ok (.iload_n 3, 1) := by decide +kernel
theorem dX2_change_33 : decode cX2_change 33 = .ok (.iadd, 1) := by decide +kernel
theorem dX2_change_34 : decode cX2_change 34 = .ok (.iastore, 1) := by decide +kernel
theorem dX2_change_35 : decode cX2_change 35 = .ok (.return_, 1) := by decide +kernel
theorem dX2_scatter_0 : decode cX2_scatter 0 = .ok (.aload_n 0, 1) := by decide +kernel
theorem dX2_scatter_1 : decode cX2_scatter 1 = .ok (.getfield 9, 3) := by decide +kernel
theorem dX2_scatter_4 : decode cX2_scatter 4 = .ok (.getfield 97, 3) := by decide +kernel
theorem dX2_scatter_7 : decode cX2_scatter 7 = .ok (.iload_n 1, 1) := by decide +kernel
theorem dX2_scatter_8 : decode cX2_scatter 8 = .ok (.invokevirtual 120, 3) := by decide +kernel
theorem dX2_scatter_11 : decode cX2_scatter 11 = .ok (.istore_n 3, 1) := by decide +kernel
theorem dX2_scatter_12 : decode cX2_scatter 12 = .ok (.iload_n 3, 1) := by decide +kernel
theorem dX2_scatter_13 : decode cX2_scatter 13 = .ok (.invokestatic 124, 3) := by decide +kernel
theorem dX2_scatter_16 : decode cX2_scatter 16 = .ok (.istore 4, 2) := by decide +kernel
theorem dX2_scatter_18 : decode cX2_scatter 18 = .ok (.iconst 0, 1) := by decide +kernel
theorem dX2_scatter_19 : decode cX2_scatter 19 = .ok (.istore 5, 2) := by decide +kernel
theorem dX2_scatter_21 : decode cX2_scatter 21 = .ok (.iload 5, 2) := by decide +kernel
theorem dX2_scatter_23 : decode cX2_scatter 23 = .ok (.iload 4, 2) := by decide +kernel
theorem dX2_scatter_25 : decode cX2_scatter 25 = .ok (.if_icmp .ge 21, 3) := by decide +kernel
theorem dX2_scatter_28 : decode cX2_scatter 28 = .ok (.aload_n 0, 1) := by decide +kernel
theorem dX2_scatter_29 : decode cX2_scatter 29 = .ok (.iload_n 2, 1) := by decide +kernel
theorem dX2_scatter_30 : decode cX2_scatter 30 = .ok (.iload_n 3, 1) := by decide +kernel
theorem dX2_scatter_31 : decode cX2_scatter 31 = .ok (.iload 5, 2) := by decide +kernel
theorem dX2_scatter_33 : decode cX2_scatter 33 = .ok (.invokestatic 127, 3) := by decide +kernel
theorem dX2_scatter_36 : decode cX2_scatter 36 = .ok (.iconst 1, 1) := by decide +kernel
theorem dX2_scatter_37 : decode cX2_scatter 37 = .ok (.invokevirtual 130, 3) := by decide +kernel
theorem dX2_scatter_40 : decode cX2_scatter 40 = .ok (.iinc 5 1, 3) := by decide +kernel
theorem dX2_scatter_43 : decode cX2_scatter 43 = .ok (.goto (-22), 3) := by decide +kernel
theorem dX2_scatter_46 : decode cX2_scatter 46 = .ok (.return_, 1) := by decide +kernel
theorem dX2_gather_0 : decode cX2_gather 0 = .ok (.aload_n 0, 1) := by decide +kernel
theorem dX2_gather_1 : decode cX2_gather 1 = .ok (.getfield 9, 3) := by decide +kernel
theorem dX2_gather_4 : decode cX2_gather 4 = .ok (.getfield 97, 3) := by decide +kernel
theorem dX2_gather_7 : decode cX2_gather 7 = .ok (.iload_n 1, 1) := by decide +kernel
theorem dX2_gather_8 : decode cX2_gather 8 = .ok (.invokevirtual 120, 3) := by decide +kernel
theorem dX2_gather_11 : decode cX2_gather 11 = .ok (.istore_n 3, 1) := by decide +kernel
theorem dX2_gather_12 : decode cX2_gather 12 = .ok (.iload_n 3, 1) := by decide +kernel
theorem dX2_gather_13 : decode cX2_gather 13 = .ok (.invokestatic 124, 3) := by decide +kernel
theorem dX2_gather_16 : decode cX2_gather 16 = .ok (.istore 4, 2) := by decide +kernel
theorem dX2_gather_18 : decode cX2_gather 18 = .ok (.iconst 0, 1) := by decide +kernel
theorem dX2_gather_19 : decode cX2_gather 19 = .ok (.istore 5, 2) := by decide +kernel
theorem dX2_gather_21 : decode cX2_gather 21 = .ok (.iload 5, 2) := by decide +kernel
theorem dX2_gather_23 : decode cX2_gather 23 = .ok (.iload 4, 2) := by decide +kernel
theorem dX2_gather_25 : decode cX2_gather 25 = .ok (.if_icmp .ge 40, 3) := by decide +kernel
theorem dX2_gather_28 : decode cX2_gather 28 = .ok (.iload_n 3, 1) := by decide +kernel
theorem dX2_gather_29 : decode cX2_gather 29 = .ok (.iload 5, 2) := by decide +kernel
theorem dX2_gather_31 : decode cX2_gather 31 = .ok (.invokestatic 127, 3) := by decide +kernel
theorem dX2_gather_34 : decode cX2_gather 34 = .ok (.istore 6, 2) := by decide +kernel
theorem dX2_gather_36 : decode cX2_gather 36 = .ok (.aload_n 0, 1) := by decide +kernel
theorem dX2_gather_37 : decode cX2_gather 37 = .ok (.aload_n 0, 1) := by decide +kernel
theorem dX2_gather_38 : decode cX2_gather 38 = .ok (.iload_n 2, 1) := by decide +kernel
theorem dX2_gather_39 : decode cX2_gather 39 = .ok (.iload 6, 2) := by decide +kernel
theorem dX2_gather_41 : decode cX2_gather 41 = .ok (.invokevirtual 134, 3) := by decide +kernel
theorem dX2_gather_44 : decode cX2_gather 44 = .ok (.ifCond .le 7, 3) := by decide +kernel
theorem dX2_gather_47 : decode cX2_gather 47 = .ok (.iload_n 2, 1) := by decide +kernel
theorem dX2_gather_48 : decode cX2_gather 48 = .ok (.goto 5, 3) := by decide +kernel
theorem dX2_gather_51 : decode cX2_gather 51 = .ok (.bipush 8, 2) := by decide +kernel
theorem dX2_gather_53 : decode cX2_gather 53 = .ok (.iload 6, 2) := by decide +kernel
theorem dX2_gather_55 : decode cX2_gather 55 = .ok (.iconst (-1), 1) := by decide +kernel
theorem dX2_gather_56 : decode cX2_gather 56 = .ok (.invokevirtual 130, 3) := by decide +kernel
theorem dX2_gather_59 : decode cX2_gather 59 = .ok (.iinc 5 1, 3) := by decide +kernel
theorem dX2_gather_62 : decode cX2_gather 62 = .ok (.goto (-41), 3) := by decide +kernel
theorem dX2_gather_65 : decode cX2_gather 65 = .ok (.return_, 1) := by decide +kernel
theorem dX2_pourLoose_0 : decode cX2_pourLoose 0 = .ok (.iconst 0, 1) := by decide +kernel
theorem dX2_pourLoose_1 : decode cX2_pourLoose 1 = .ok (.istore_n 2, 1) := by decide +kernel
theorem dX2_pourLoose_2 : decode cX2_pourLoose 2 = .ok (.iload_n 2, 1) := by decide +kernel
theorem dX2_pourLoose_3 : decode cX2_pourLoose 3 = .ok (.bipush 26, 2) := by decide +kernel
theorem dX2_pourLoose_5 : decode cX2_pourLoose 5 = .ok (.if_icmp .ge 32, 3) := by decide +kernel
theorem dX2_pourLoose_8 : decode cX2_pourLoose 8 = .ok (.aload_n 0, 1) := by decide +kernel
theorem dX2_pourLoose_9 : decode cX2_pourLoose 9 = .ok (.iload_n 1, 1) := by decide +kernel
theorem dX2_pourLoose_10 : decode cX2_pourLoose 10 = .ok (.iload_n 2, 1) := by decide +kernel
theorem dX2_pourLoose_11 : decode cX2_pourLoose 11 = .ok (.invokevirtual 134, 3) := by decide +kernel
theorem dX2_pourLoose_14 : decode cX2_pourLoose 14 = .ok (.istore_n 3, 1) := by decide +kernel
theorem dX2_pourLoose_15 : decode cX2_pourLoose 15 = .ok (.aload_n 0, 1) := by decide +kernel
theorem dX2_pourLoose_16 : decode cX2_pourLoose 16 = .ok (.iload_n 1, 1) := by decide +kernel
theorem dX2_pourLoose_17 : decode cX2_pourLoose 17 = .ok (.iload_n 2, 1) := by decide +kernel
theorem dX2_pourLoose_18 : decode cX2_pourLoose 18 = .ok (.iload_n 3, 1) := by decide +kernel
theorem dX2_pourLoose_19 : decode cX2_pourLoose 19 = .ok (.ineg, 1) := by decide +kernel
theorem dX2_pourLoose_20 : decode cX2_pourLoose 20 = .ok (.invokevirtual 130, 3) := by decide +kernel
theorem dX2_pourLoose_23 : decode cX2_pourLoose 23 = .ok (.aload_n 0, 1) := by decide +kernel
theorem dX2_pourLoose_24 : decode cX2_pourLoose 24 = .ok (.bipush 8, 2) := by decide +kernel
theorem dX2_pourLoose_26 : decode cX2_pourLoose 26 = .ok (.iload_n 2, 1) := by decide +kernel
theorem dX2_pourLoose_27 : decode cX2_pourLoose 27 = .ok (.iload_n 3, 1) := by decide +kernel
theorem dX2_pourLoose_28 : decode cX2_pourLoose 28 = .ok (.invokevirtual 130, 3) := by decide +kernel
theorem dX2_pourLoose_31 : decode cX2_pourLoose 31 = .ok (.iinc 2 1, 3) := by decide +kernel
theorem dX2_pourLoose_34 : decode cX2_pourLoose 34 = .ok (.goto (-32), 3) := by decide +kernel
theorem dX2_pourLoose_37 : decode cX2_pourLoose 37 = .ok (.return_, 1) := by decide +kernel
theorem dX2_looseLetters_0 : decode cX2_looseLetters 0 = .ok (.iconst 0, 1) := by decide +kernel
theorem dX2_looseLetters_1 : decode cX2_looseLetters 1 = .ok (.istore_n 2, 1) := by decide +kernel
theorem dX2_looseLetters_2 : decode cX2_looseLetters 2 = .ok (.iconst 0, 1) := by decide +kernel
theorem dX2_looseLetters_3 : decode cX2_looseLetters 3 = .ok (.istore_n 3, 1) := by decide +kernel
theorem dX2_looseLetters_4 : decode cX2_looseLetters 4 = .ok (.iload_n 3, 1) := by decide +kernel
theorem dX2_looseLetters_5 : decode cX2_looseLetters 5 = .ok (.bipush 26, 2) := by decide +kernel
theorem dX2_looseLetters_7 : decode cX2_looseLetters 7 = .ok (.if_icmp .ge 18, 3) := by decide +kernel
theorem dX2_looseLetters_10 : decode cX2_looseLetters 10 = .ok (.iload_n 2, 1) := by decide +kernel
theorem dX2_looseLetters_11 : decode cX2_looseLetters 11 = .ok (.aload_n 0, 1) := by decide +kernel
theorem dX2_looseLetters_12 : decode cX2_looseLetters 12 = .ok (.iload_n 1, 1) := by decide +kernel
theorem dX2_looseLetters_13 : decode cX2_looseLetters 13 = .ok (.iload_n 3, 1) := by decide +kernel
theorem dX2_looseLetters_14 : decode cX2_looseLetters 14 = .ok (.invokevirtual 134, 3) := by decide +kernel
theorem dX2_looseLetters_17 : decode cX2_looseLetters 17 = .ok (.iadd, 1) := by decide +kernel
theorem dX2_looseLetters_18 : decode cX2_looseLetters 18 = .ok (.istore_n 2, 1) := by decide +kernel
theorem dX2_looseLetters_19 : decode cX2_looseLetters 19 = .ok (.iinc 3 1, 3) := by decide +kernel
theorem dX2_looseLetters_22 : decode cX2_looseLetters 22 = .ok (.goto (-18), 3) := by decide +kernel
theorem dX2_looseLetters_25 : decode cX2_looseLetters 25 = .ok (.iload_n 2, 1) := by decide +kernel
theorem dX2_looseLetters_26 : decode cX2_looseLetters 26 = .ok (.ireturn, 1) := by decide +kernel
theorem dX2_looseOunces_0 : decode cX2_looseOunces 0 = .ok (.iconst 0, 1) := by decide +kernel
theorem dX2_looseOunces_1 : decode cX2_looseOunces 1 = .ok (.istore_n 2, 1) := by decide +kernel
theorem dX2_looseOunces_2 : decode cX2_looseOunces 2 = .ok (.iconst 0, 1) := by decide +kernel
theorem dX2_looseOunces_3 : decode cX2_looseOunces 3 = .ok (.istore_n 3, 1) := by decide +kernel
theorem dX2_looseOunces_4 : decode cX2_looseOunces 4 = .ok (.iload_n 3, 1) := by decide +kernel
theorem dX2_looseOunces_5 : decode cX2_looseOunces 5 = .ok (.bipush 26, 2) := by decide +kernel
theorem dX2_looseOunces_7 : decode cX2_looseOunces 7 = .ok (.if_icmp .ge 27, 3) := by decide +kernel
theorem dX2_looseOunces_10 : decode cX2_looseOunces 10 = .ok (.iload_n 2, 1) := by decide +kernel
theorem dX2_looseOunces_11 : decode cX2_looseOunces 11 = .ok (.aload_n 0, 1) := by decide +kernel
theorem dX2_looseOunces_12 : decode cX2_looseOunces 12 = .ok (.iload_n 1, 1) := by decide +kernel
theorem dX2_looseOunces_13 : decode cX2_looseOunces 13 = .ok (.iload_n 3, 1) := by decide +kernel
theorem dX2_looseOunces_14 : decode cX2_looseOunces 14 = .ok (.invokevirtual 134, 3) := by decide +kernel
theorem dX2_looseOunces_17 : decode cX2_looseOunces 17 = .ok (.aload_n 0, 1) := by decide +kernel
theorem dX2_looseOunces_18 : decode cX2_looseOunces 18 = .ok (.getfield 9, 3) := by decide +kernel
theorem dX2_looseOunces_21 : decode cX2_looseOunces 21 = .ok (.iload_n 3, 1) := by decide +kernel
theorem dX2_looseOunces_22 : decode cX2_looseOunces 22 = .ok (.invokevirtual 137, 3) := by decide +kernel
theorem dX2_looseOunces_25 : decode cX2_looseOunces 25 = .ok (.imul, 1) := by decide +kernel
theorem dX2_looseOunces_26 : decode cX2_looseOunces 26 = .ok (.iadd, 1) := by decide +kernel
theorem dX2_looseOunces_27 : decode cX2_looseOunces 27 = .ok (.istore_n 2, 1) := by decide +kernel
theorem dX2_looseOunces_28 : decode cX2_looseOunces 28 = .ok (.iinc 3 1, 3) := by decide +kernel
theorem dX2_looseOunces_31 : decode cX2_looseOunces 31 = .ok (.goto (-27), 3) := by decide +kernel
theorem dX2_looseOunces_34 : decode cX2_looseOunces 34 = .ok (.iload_n 2, 1) := by decide +kernel
theorem dX2_looseOunces_35 : decode cX2_looseOunces 35 = .ok (.ireturn, 1) := by decide +kernel
theorem dX2_loadOf_0 : decode cX2_loadOf 0 = .ok (.aload_n 0, 1) := by decide +kernel
theorem dX2_loadOf_1 : decode cX2_loadOf 1 = .ok (.getfield 9, 3) := by decide +kernel
theorem dX2_loadOf_4 : decode cX2_loadOf 4 = .ok (.aload_n 0, 1) := by decide +kernel
theorem dX2_loadOf_5 : decode cX2_loadOf 5 = .ok (.iload_n 1, 1) := by decide +kernel
theorem dX2_loadOf_6 : decode cX2_loadOf 6 = .ok (.invokevirtual 140, 3) := by decide +kernel
theorem dX2_loadOf_9 : decode cX2_loadOf 9 = .ok (.invokevirtual 143, 3) := by decide +kernel
theorem dX2_loadOf_12 : decode cX2_loadOf 12 = .ok (.aload_n 0, 1) := by decide +kernel
theorem dX2_loadOf_13 : decode cX2_loadOf 13 = .ok (.iload_n 1, 1) := by decide +kernel
theorem dX2_loadOf_14 : decode cX2_loadOf 14 = .ok (.invokevirtual 146, 3) := by decide +kernel
theorem dX2_loadOf_17 : decode cX2_loadOf 17 = .ok (.iadd, 1) := by decide +kernel
theorem dX2_loadOf_18 : decode cX2_loadOf 18 = .ok (.ireturn, 1) := by decide +kernel
theorem dX2_coatOunces_0 : decode cX2_coatOunces 0 = .ok (.iconst 0, 1) := by decide +kernel
theorem dX2_coatOunces_1 : decode cX2_coatOunces 1 = .ok (.istore_n 1, 1) := by decide +kernel
theorem dX2_coatOunces_2 : decode cX2_coatOunces 2 = .ok (.iconst 0, 1) := by decide +kernel
theorem dX2_coatOunces_3 : decode cX2_coatOunces 3 = .ok (.istore_n 2, 1) := by decide +kernel
theorem dX2_coatOunces_4 : decode cX2_coatOunces 4 = .ok (.iload_n 2, 1) := by decide +kernel
theorem dX2_coatOunces_5 : decode cX2_coatOunces 5 = .ok (.aload_n 0, 1) := by decide +kernel
theorem dX2_coatOunces_6 : decode cX2_coatOunces 6 = .ok (.getfield 9, 3) := by decide +kernel
theorem dX2_coatOunces_9 : decode cX2_coatOunces 9 = .ok (.getfield 87, 3) := by decide +kernel
theorem dX2_coatOunces_12 : decode cX2_coatOunces 12 = .ok (.getfield 103, 3) := by decide +kernel
theorem dX2_coatOunces_15 : decode cX2_coatOunces 15 = .ok (.if_icmp .ge 17, 3) := by decide +kernel
theorem dX2_coatOunces_18 : decode cX2_coatOunces 18 = .ok (.iload_n 1, 1) := by decide +kernel
theorem dX2_coatOunces_19 : decode cX2_coatOunces 19 = .ok (.aload_n 0, 1) := by decide +kernel
theorem dX2_coatOunces_20 : decode cX2_coatOunces 20 = .ok (.iload_n 2, 1) := by decide +kernel
theorem dX2_coatOunces_21 : decode cX2_coatOunces 21 = .ok (.invokevirtual 149, 3) := by decide +kernel
theorem dX2_coatOunces_24 : decode cX2_coatOunces 24 = .ok (.iadd, 1) := by decide +kernel
theorem dX2_coatOunces_25 : decode cX2_coatOunces 25 = .ok (.istore_n 1, 1) := by decide +kernel
theorem dX2_coatOunces_26 : decode cX2_coatOunces 26 = .ok (.iinc 2 1, 3) := by decide +kernel
theorem dX2_coatOunces_29 : decode cX2_coatOunces 29 = .ok (.goto (-25), 3) := by decide +kernel
theorem dX2_coatOunces_32 : decode cX2_coatOunces 32 = .ok (.iload_n 1, 1) := by decide +kernel
theorem dX2_coatOunces_33 : decode cX2_coatOunces 33 = .ok (.ireturn, 1) := by decide +kernel
theorem dX2_bulletOunces_0 : decode cX2_bulletOunces 0 = .ok (.iconst 0, 1) := by decide +kernel
theorem dX2_bulletOunces_1 : decode cX2_bulletOunces 1 = .ok (.istore_n 1, 1) := by decide +kernel
theorem dX2_bulletOunces_2 : decode cX2_bulletOunces 2 = .ok (.iconst 0, 1) := by decide +kernel
theorem dX2_bulletOunces_3 : decode cX2_bulletOunces 3 = .ok (.istore_n 2, 1) := by decide +kernel
theorem dX2_bulletOunces_4 : decode cX2_bulletOunces 4 = .ok (.iload_n 2, 1) := by decide +kernel
theorem dX2_bulletOunces_5 : decode cX2_bulletOunces 5 = .ok (.aload_n 0, 1) := by decide +kernel
theorem dX2_bulletOunces_6 : decode cX2_bulletOunces 6 = .ok (.getfield 22, 3) := by decide +kernel
theorem dX2_bulletOunces_9 : decode cX2_bulletOunces 9 = .ok (.if_icmp .ge 24, 3) := by decide +kernel
theorem dX2_bulletOunces_12 : decode cX2_bulletOunces 12 = .ok (.iload_n 2, 1) := by decide +kernel
theorem dX2_bulletOunces_13 : decode cX2_bulletOunces 13 = .ok (.bipush 30, 2) := by decide +kernel
theorem dX2_bulletOunces_15 : decode cX2_bulletOunces 15 = .ok (.if_icmp .ge 18, 3) := by decide +kernel
theorem dX2_bulletOunces_18 : decode cX2_bulletOunces 18 = .ok (.iload_n 1, 1) := by decide +kernel
theorem dX2_bulletOunces_19 : decode cX2_bulletOunces 19 = .ok (.aload_n 0, 1) := by decide +kernel
theorem dX2_bulletOunces_20 : decode cX2_bulletOunces 20 = .ok (.getfield 32, 3) := by decide +kernel
theorem dX2_bulletOunces_23 : decode cX2_bulletOunces 23 = .ok (.iload_n 2, 1) := by decide +kernel
theorem dX2_bulletOunces_24 : decode cX2_bulletOunces 24 = .ok (.iaload, 1) := by decide +kernel
theorem dX2_bulletOunces_25 : decode cX2_bulletOunces 25 = .ok (.iadd, 1) := by decide +kernel
theorem dX2_bulletOunces_26 : decode cX2_bulletOunces 26 = .ok (.istore_n 1, 1) := by decide +kernel
theorem dX2_bulletOunces_27 : decode cX2_bulletOunces 27 = .ok (.iinc 2 1, 3) := by decide +kernel
theorem dX2_bulletOunces_30 : decode cX2_bulletOunces 30 = .ok (.goto (-26), 3) := by decide +kernel
theorem dX2_bulletOunces_33 : decode cX2_bulletOunces 33 = .ok (.iload_n 1, 1) := by decide +kernel
theorem dX2_bulletOunces_34 : decode cX2_bulletOunces 34 = .ok (.ireturn, 1) := by decide +kernel
theorem dX2_honourOf_0 : decode cX2_honourOf 0 = .ok (.aload_n 0, 1) := by decide +kernel
theorem dX2_honourOf_1 : decode cX2_honourOf 1 = .ok (.getfield 9, 3) := by decide +kernel
theorem dX2_honourOf_4 : decode cX2_honourOf 4 = .ok (.aload_n 0, 1) := by decide +kernel
theorem dX2_honourOf_5 : decode cX2_honourOf 5 = .ok (.iload_n 1, 1) := by decide +kernel
theorem dX2_honourOf_6 : decode cX2_honourOf 6 = .ok (.invokevirtual 140, 3) := by decide +kernel
theorem dX2_honourOf_9 : decode cX2_honourOf 9 = .ok (.invokevirtual 152, 3) := by decide +kernel
theorem dX2_honourOf_12 : decode cX2_honourOf 12 = .ok (.ireturn, 1) := by decide +kernel
theorem dX2_ageOf_0 : decode cX2_ageOf 0 = .ok (.iconst 0, 1) := by decide +kernel
theorem dX2_ageOf_1 : decode cX2_ageOf 1 = .ok (.aload_n 0, 1) := by decide +kernel
theorem dX2_ageOf_2 : decode cX2_ageOf 2 = .ok (.getfield 15, 3) := by decide +kernel
theorem dX2_ageOf_5 : decode cX2_ageOf 5 = .ok (.aload_n 0, 1) := by decide +kernel
theorem dX2_ageOf_6 : decode cX2_ageOf 6 = .ok (.getfield 9, 3) := by decide +kernel
theorem dX2_ageOf_9 : decode cX2_ageOf 9 = .ok (.getfield 87, 3) := by decide +kernel
theorem dX2_ageOf_12 : decode cX2_ageOf 12 = .ok (.iload_n 1, 1) := by decide +kernel
theorem dX2_ageOf_13 : decode cX2_ageOf 13 = .ok (.iconst 0, 1) := by decide +kernel
theorem dX2_ageOf_14 : decode cX2_ageOf 14 = .ok (.invokevirtual 155, 3) := by decide +kernel
theorem dX2_ageOf_17 : decode cX2_ageOf 17 = .ok (.isub, 1) := by decide +kernel
theorem dX2_ageOf_18 : decode cX2_ageOf 18 = .ok (.invokestatic 156, 3) := by decide +kernel
theorem dX2_ageOf_21 : decode cX2_ageOf 21 = .ok (.ireturn, 1) := by decide +kernel
theorem dX2_limitOf_0 : decode cX2_limitOf 0 = .ok (.aload_n 0, 1) := by decide +kernel
theorem dX2_limitOf_1 : decode cX2_limitOf 1 = .ok (.getfield 9, 3) := by decide +kernel
theorem dX2_limitOf_4 : decode cX2_limitOf 4 = .ok (.getfield 87, 3) := by decide +kernel
theorem dX2_limitOf_7 : decode cX2_limitOf 7 = .ok (.iload_n 1, 1) := by decide +kernel
theorem dX2_limitOf_8 : decode cX2_limitOf 8 = .ok (.iconst 1, 1) := by decide +kernel
theorem dX2_limitOf_9 : decode cX2_limitOf 9 = .ok (.invokevirtual 155, 3) := by decide +kernel
theorem dX2_limitOf_12 : decode cX2_limitOf 12 = .ok (.istore_n 2, 1) := by decide +kernel
theorem dX2_limitOf_13 : decode cX2_limitOf 13 = .ok (.aload_n 0, 1) := by decide +kernel
theorem dX2_limitOf_14 : decode cX2_limitOf 14 = .ok (.iload_n 1, 1) := by decide +kernel
theorem dX2_limitOf_15 : decode cX2_limitOf 15 = .ok (.invokevirtual 161, 3) := by decide +kernel
theorem dX2_limitOf_18 : decode cX2_limitOf 18 = .ok (.istore_n 3, 1) := by decide +kernel
theorem dX2_limitOf_19 : decode cX2_limitOf 19 = .ok (.aload_n 0, 1) := by decide +kernel
theorem dX2_limitOf_20 : decode cX2_limitOf 20 = .ok (.getfield 56, 3) := by decide +kernel
theorem dX2_limitOf_23 : decode cX2_limitOf 23 = .ok (.iconst (-1), 1) := by decide +kernel
theorem dX2_limitOf_24 : decode cX2_limitOf 24 = .ok (.iload_n 1, 1) := by decide +kernel
theorem dX2_limitOf_25 : decode cX2_limitOf 25 = .ok (.invokevirtual 164, 3) := by decide +kernel
theorem dX2_limitOf_28 : decode cX2_limitOf 28 = .ok (.aload_n 0, 1) := by decide +kernel
theorem dX2_limitOf_29 : decode cX2_limitOf 29 = .ok (.getfield 56, 3) := by decide +kernel
theorem dX2_limitOf_32 : decode cX2_limitOf 32 = .ok (.bipush (-2), 2) := by decide +kernel
theorem dX2_limitOf_34 : decode cX2_limitOf 34 = .ok (.iload_n 3, 1) := by decide +kernel
theorem dX2_limitOf_35 : decode cX2_limitOf 35 = .ok (.invokevirtual 164, 3) := by decide +kernel
theorem dX2_limitOf_38 : decode cX2_limitOf 38 = .ok (.aload_n 0, 1) := by decide +kernel
theorem dX2_limitOf_39 : decode cX2_limitOf 39 = .ok (.getfield 56, 3) := by decide +kernel
theorem dX2_limitOf_42 : decode cX2_limitOf 42 = .ok (.bipush (-3), 2) := by decide +kernel
theorem dX2_limitOf_44 : decode cX2_limitOf 44 = .ok (.iload_n 2, 1) := by decide +kernel
theorem dX2_limitOf_45 : decode cX2_limitOf 45 = .ok (.invokevirtual 164, 3) := by decide +kernel
theorem dX2_limitOf_48 : decode cX2_limitOf 48 = .ok (.aload_n 0, 1) := by decide +kernel
theorem dX2_limitOf_49 : decode cX2_limitOf 49 = .ok (.getfield 56, 3) := by decide +kernel
theorem dX2_limitOf_52 : decode cX2_limitOf 52 = .ok (.bipush (-4), 2) := by decide +kernel
theorem dX2_limitOf_54 : decode cX2_limitOf 54 = .ok (.aload_n 0, 1) := by decide +kernel
theorem dX2_limitOf_55 : decode cX2_limitOf 55 = .ok (.iload_n 1, 1) := by decide +kernel
theorem dX2_limitOf_56 : decode cX2_limitOf 56 = .ok (.invokevirtual 167, 3) := by decide +kernel
theorem dX2_limitOf_59 : decode cX2_limitOf 59 = .ok (.invokevirtual 164, 3) := by decide +kernel
theorem dX2_limitOf_62 : decode cX2_limitOf 62 = .ok (.aload_n 0, 1) := by decide +kernel
theorem dX2_limitOf_63 : decode cX2_limitOf 63 = .ok (.getfield 56, 3) := by decide +kernel
theorem dX2_limitOf_66 : decode cX2_limitOf 66 = .ok (.bipush (-5), 2) := by decide +kernel
theorem dX2_limitOf_68 : decode cX2_limitOf 68 = .ok (.aload_n 0, 1) := by decide +kernel
theorem dX2_limitOf_69 : decode cX2_limitOf 69 = .ok (.iload_n 1, 1) := by decide +kernel
theorem dX2_limitOf_70 : decode cX2_limitOf 70 = .ok (.invokevirtual 140, 3) := by decide +kernel
theorem dX2_limitOf_73 : decode cX2_limitOf 73 = .ok (.invokestatic 170, 3) := by decide +kernel
theorem dX2_limitOf_76 : decode cX2_limitOf 76 = .ok (.invokevirtual 164, 3) := by decide +kernel
theorem dX2_limitOf_79 : decode cX2_limitOf 79 = .ok (.iload_n 2, 1) := by decide +kernel
theorem dX2_limitOf_80 : decode cX2_limitOf 80 = .ok (.aload_n 0, 1) := by decide +kernel
theorem dX2_limitOf_81 : decode cX2_limitOf 81 = .ok (.getfield 9, 3) := by decide +kernel
theorem dX2_limitOf_84 : decode cX2_limitOf 84 = .ok (.iload_n 3, 1) := by decide +kernel
theorem dX2_limitOf_85 : decode cX2_limitOf 85 = .ok (.invokevirtual 175, 3) := by decide +kernel
theorem dX2_limitOf_88 : decode cX2_limitOf 88 = .ok (.imul, 1) := by decide +kernel
theorem dX2_limitOf_89 : decode cX2_limitOf 89 = .ok (.bipush 100, 2) := by decide +kernel
theorem dX2_limitOf_91 : decode cX2_limitOf 91 = .ok (.idiv, 1) := by decide +kernel
theorem dX2_limitOf_92 : decode cX2_limitOf 92 = .ok (.aload_n 0, 1) := by decide +kernel
theorem dX2_limitOf_93 : decode cX2_limitOf 93 = .ok (.getfield 56, 3) := by decide +kernel
theorem dX2_limitOf_96 : decode cX2_limitOf 96 = .ok (.aload_n 0, 1) := by decide +kernel
theorem dX2_limitOf_97 : decode cX2_limitOf 97 = .ok (.getfield 9, 3) := by decide +kernel
theorem dX2_limitOf_100 : decode cX2_limitOf 100 = .ok (.invokevirtual 178, 3) := by decide +kernel
theorem dX2_limitOf_103 : decode cX2_limitOf 103 = .ok (.iadd, 1) := by decide +kernel
theorem dX2_limitOf_104 : decode cX2_limitOf 104 = .ok (.istore 4, 2) := by decide +kernel
theorem dX2_limitOf_106 : decode cX2_limitOf 106 = .ok (.iconst 0, 1) := by decide +kernel
theorem dX2_limitOf_107 : decode cX2_limitOf 107 = .ok (.sipush 9999, 3) := by decide +kernel
theorem dX2_limitOf_110 : decode cX2_limitOf 110 = .ok (.iload 4, 2) := by decide +kernel
theorem dX2_limitOf_112 : decode cX2_limitOf 112 = .ok (.invokestatic 182, 3) := by decide +kernel
theorem dX2_limitOf_115 : decode cX2_limitOf 115 = .ok (.invokestatic 156, 3) := by decide +kernel
theorem dX2_limitOf_118 : decode cX2_limitOf 118 = .ok (.ireturn, 1) := by decide +kernel
theorem dX2_gainOunces_0 : decode cX2_gainOunces 0 = .ok (.aload_n 0, 1) := by decide +kernel
theorem dX2_gainOunces_1 : decode cX2_gainOunces 1 = .ok (.iload_n 1, 1) := by decide +kernel
theorem dX2_gainOunces_2 : decode cX2_gainOunces 2 = .ok (.iload_n 2, 1) := by decide +kernel
theorem dX2_gainOunces_3 : decode cX2_gainOunces 3 = .ok (.invokevirtual 106, 3) := by decide +kernel
theorem dX2_gainOunces_6 : decode cX2_gainOunces 6 = .ok (.ifCond .ne 5, 3) := by decide +kernel
theorem dX2_gainOunces_9 : decode cX2_gainOunces 9 = .ok (.iconst (-1), 1) := by decide +kernel
theorem dX2_gainOunces_10 : decode cX2_gainOunces 10 = .ok (.ireturn, 1) := by decide +kernel
theorem dX2_gainOunces_11 : decode cX2_gainOunces 11 = .ok (.aload_n 0, 1) := by decide +kernel
theorem dX2_gainOunces_12 : decode cX2_gainOunces 12 = .ok (.getfield 9, 3) := by decide +kernel
theorem dX2_gainOunces_15 : decode cX2_gainOunces 15 = .ok (.getfield 97, 3) := by decide +kernel
theorem dX2_gainOunces_18 : decode cX2_gainOunces 18 = .ok (.iload_n 2, 1) := by decide +kernel
theorem dX2_gainOunces_19 : decode cX2_gainOunces 19 = .ok (.invokevirtual 120, 3) := by decide +kernel
theorem dX2_gainOunces_22 : decode cX2_gainOunces 22 = .ok (.istore_n 3, 1) := by decide +kernel
theorem dX2_gainOunces_23 : decode cX2_gainOunces 23 = .ok (.iload_n 3, 1) := by decide +kernel
theorem dX2_gainOunces_24 : decode cX2_gainOunces 24 = .ok (.invokestatic 124, 3) := by decide +kernel
theorem dX2_gainOunces_27 : decode cX2_gainOunces 27 = .ok (.istore 4, 2) := by decide +kernel
theorem dX2_gainOunces_29 : decode cX2_gainOunces 29 = .ok (.iconst 0, 1) := by decide +kernel
theorem dX2_gainOunces_30 : decode cX2_gainOunces 30 = .ok (.istore 5, 2) := by decide +kernel
theorem dX2_gainOunces_32 : decode cX2_gainOunces 32 = .ok (.iconst 0, 1) := by decide +kernel
theorem dX2_gainOunces_33 : decode cX2_gainOunces 33 = .ok (.istore 6, 2) := by decide +kernel
theorem dX2_gainOunces_35 : decode cX2_gainOunces 35 = .ok (.iload 6, 2) := by decide +kernel
theorem dX2_gainOunces_37 : decode cX2_gainOunces 37 = .ok (.iload 4, 2) := by decide +kernel
theorem dX2_gainOunces_39 : decode cX2_gainOunces 39 = .ok (.if_icmp .ge 75, 3) := by decide +kernel
theorem dX2_gainOunces_42 : decode cX2_gainOunces 42 = .ok (.iload_n 3, 1) := by decide +kernel
theorem dX2_gainOunces_43 : decode cX2_gainOunces 43 = .ok (.iload 6, 2) := by decide +kernel
theorem dX2_gainOunces_45 : decode cX2_gainOunces 45 = .ok (.invokestatic 127, 3) := by decide +kernel
theorem dX2_gainOunces_48 : decode cX2_gainOunces 48 = .ok (.istore 7, 2) := by decide +kernel
theorem dX2_gainOunces_50 : decode cX2_gainOunces 50 = .ok (.aload_n 0, 1) := by decide +kernel
theorem dX2_gainOunces_51 : decode cX2_gainOunces 51 = .ok (.getfield 9, 3) := by decide +kernel
theorem dX2_gainOunces_54 : decode cX2_gainOunces 54 = .ok (.iload_n 2, 1) := by decide +kernel
theorem dX2_gainOunces_55 : decode cX2_gainOunces 55 = .ok (.iload 6, 2) := by decide +kernel
theorem dX2_gainOunces_57 : decode cX2_gainOunces 57 = .ok (.invokevirtual 185, 3) := by decide +kernel
theorem dX2_gainOunces_60 : decode cX2_gainOunces 60 = .ok (.aload_n 0, 1) := by decide +kernel
theorem dX2_gainOunces_61 : decode cX2_gainOunces 61 = .ok (.iload_n 1, 1) := by decide +kernel
theorem dX2_gainOunces_62 : decode cX2_gainOunces 62 = .ok (.iload 7, 2) := by decide +kernel
theorem dX2_gainOunces_64 : decode cX2_gainOunces 64 = .ok (.invokevirtual 134, 3) := by decide +kernel
theorem dX2_gainOunces_67 : decode cX2_gainOunces 67 = .ok (.isub, 1) := by decide +kernel
theorem dX2_gainOunces_68 : decode cX2_gainOunces 68 = .ok (.istore 8, 2) := by decide +kernel
theorem dX2_gainOunces_70 : decode cX2_gainOunces 70 = .ok (.iload 8, 2) := by decide +kernel
theorem dX2_gainOunces_72 : decode cX2_gainOunces 72 = .ok (.aload_n 0, 1) := by decide +kernel
theorem dX2_gainOunces_73 : decode cX2_gainOunces 73 = .ok (.bipush 8, 2) := by decide +kernel
theorem dX2_gainOunces_75 : decode cX2_gainOunces 75 = .ok (.iload 7, 2) := by decide +kernel
theorem dX2_gainOunces_77 : decode cX2_gainOunces 77 = .ok (.invokevirtual 134, 3) := by decide +kernel
theorem dX2_gainOunces_80 : decode cX2_gainOunces 80 = .ok (.if_icmp .le 5, 3) := by decide +kernel
theorem dX2_gainOunces_83 : decode cX2_gainOunces 83 = .ok (.iconst (-1), 1) := by decide +kernel
theorem dX2_gainOunces_84 : decode cX2_gainOunces 84 = .ok (.ireturn, 1) := by decide +kernel
theorem dX2_gainOunces_85 : decode cX2_gainOunces 85 = .ok (.iload 5, 2) := by decide +kernel
theorem dX2_gainOunces_87 : decode cX2_gainOunces 87 = .ok (.iload 8, 2) := by decide +kernel
theorem dX2_gainOunces_89 : decode cX2_gainOunces 89 = .ok (.ifCond .le 15, 3) := by decide +kernel
theorem dX2_gainOunces_92 : decode cX2_gainOunces 92 = .ok (.aload_n 0, 1) := by decide +kernel
theorem dX2_gainOunces_93 : decode cX2_gainOunces 93 = .ok (.getfield 9, 3) := by decide +kernel
theorem dX2_gainOunces_96 : decode cX2_gainOunces 96 = .ok (.iload 7, 2) := by decide +kernel
theorem dX2_gainOunces_98 : decode cX2_gainOunces 98 = .ok (.invokevirtual 137, 3) := by decide +kernel
theorem dX2_gainOunces_101 : decode cX2_gainOunces 101 = .ok (.goto 4, 3) := by decide +kernel
theorem dX2_gainOunces_104 : decode cX2_gainOunces 104 = .ok (.iconst 0, 1) := by decide +kernel
theorem dX2_gainOunces_105 : decode cX2_gainOunces 105 = .ok (.iadd, 1) := by decide +kernel
theorem dX2_gainOunces_106 : decode cX2_gainOunces 106 = .ok (.istore 5, 2) := by decide +kernel
theorem dX2_gainOunces_108 : decode cX2_gainOunces 108 = .ok (.iinc 6 1, 3) := by decide +kernel
theorem dX2_gainOunces_111 : decode cX2_gainOunces 111 = .ok (.goto (-76), 3) := by decide +kernel
theorem dX2_gainOunces_114 : decode cX2_gainOunces 114 = .ok (.aload_n 0, 1) := by decide +kernel
theorem dX2_gainOunces_115 : decode cX2_gainOunces 115 = .ok (.iload_n 1, 1) := by decide +kernel
theorem dX2_gainOunces_116 : decode cX2_gainOunces 116 = .ok (.invokevirtual 149, 3) := by decide +kernel
theorem dX2_gainOunces_119 : decode cX2_gainOunces 119 = .ok (.iload 5, 2) := by decide +kernel
theorem dX2_gainOunces_121 : decode cX2_gainOunces 121 = .ok (.iadd, 1) := by decide +kernel
theorem dX2_gainOunces_122 : decode cX2_gainOunces 122 = .ok (.aload_n 0, 1) := by decide +kernel
theorem dX2_gainOunces_123 : decode cX2_gainOunces 123 = .ok (.iload_n 1, 1) := by decide +kernel
theorem dX2_gainOunces_124 : decode cX2_gainOunces 124 = .ok (.invokevirtual 188, 3) := by decide +kernel
theorem dX2_gainOunces_127 : decode cX2_gainOunces 127 = .ok (.if_icmp .gt 8, 3) := by decide +kernel
theorem dX2_gainOunces_130 : decode cX2_gainOunces 130 = .ok (.iload 5, 2) := by decide +kernel
theorem dX2_gainOunces_132 : decode cX2_gainOunces 132 = .ok (.goto 4, 3) := by decide +kernel
theorem dX2_gainOunces_135 : decode cX2_gainOunces 135 = .ok (.iconst (-1), 1) := by decide +kernel
theorem dX2_gainOunces_136 : decode cX2_gainOunces 136 = .ok (.ireturn, 1) := by decide +kernel
theorem dX2_titleWith_0 : decode cX2_titleWith 0 = .ok (.iconst 0, 1) := by decide +kernel
theorem dX2_titleWith_1 : decode cX2_titleWith 1 = .ok (.istore_n 3, 1) := by decide +kernel
theorem dX2_titleWith_2 : decode cX2_titleWith 2 = .ok (.iload_n 3, 1) := by decide +kernel
theorem dX2_titleWith_3 : decode cX2_titleWith 3 = .ok (.aload_n 0, 1) := by decide +kernel
theorem dX2_titleWith_4 : decode cX2_titleWith 4 = .ok (.getfield 9, 3) := by decide +kernel
theorem dX2_titleWith_7 : decode cX2_titleWith 7 = .ok (.getfield 97, 3) := by decide +kernel
theorem dX2_titleWith_10 : decode cX2_titleWith 10 = .ok (.getfield 103, 3) := by decide +kernel
theorem dX2_titleWith_13 : decode cX2_titleWith 13 = .ok (.if_icmp .ge 38, 3) := by decide +kernel
theorem dX2_titleWith_16 : decode cX2_titleWith 16 = .ok (.aload_n 0, 1) := by decide +kernel
theorem dX2_titleWith_17 : decode cX2_titleWith 17 = .ok (.iload_n 1, 1) := by decide +kernel
theorem dX2_titleWith_18 : decode cX2_titleWith 18 = .ok (.iload_n 3, 1) := by decide +kernel
theorem dX2_titleWith_19 : decode cX2_titleWith 19 = .ok (.invokevirtual 99, 3) := by decide +kernel
theorem dX2_titleWith_22 : decode cX2_titleWith 22 = .ok (.ifCond .eq 23, 3) := by decide +kernel
theorem dX2_titleWith_25 : decode cX2_titleWith 25 = .ok (.aload_n 0, 1) := by decide +kernel
theorem dX2_titleWith_26 : decode cX2_titleWith 26 = .ok (.getfield 9, 3) := by decide +kernel
theorem dX2_titleWith_29 : decode cX2_titleWith 29 = .ok (.getfield 97, 3) := by decide +kernel
theorem dX2_titleWith_32 : decode cX2_titleWith 32 = .ok (.iload_n 3, 1) := by decide +kernel
theorem dX2_titleWith_33 : decode cX2_titleWith 33 = .ok (.invokevirtual 120, 3) := by decide +kernel
theorem dX2_titleWith_36 : decode cX2_titleWith 36 = .ok (.iload_n 2, 1) := by decide +kernel
theorem dX2_titleWith_37 : decode cX2_titleWith 37 = .ok (.invokestatic 191, 3) := by decide +kernel
theorem dX2_titleWith_40 : decode cX2_titleWith 40 = .ok (.ifCond .eq 5, 3) := by decide +kernel
theorem dX2_titleWith_43 : decode cX2_titleWith 43 = .ok (.iload_n 3, 1) := by decide +kernel
theorem dX2_titleWith_44 : decode cX2_titleWith 44 = .ok (.ireturn, 1) := by decide +kernel
theorem dX2_titleWith_45 : decode cX2_titleWith 45 = .ok (.iinc 3 1, 3) := by decide +kernel
theorem dX2_titleWith_48 : decode cX2_titleWith 48 = .ok (.goto (-46), 3) := by decide +kernel
theorem dX2_titleWith_51 : decode cX2_titleWith 51 = .ok (.iconst (-1), 1) := by decide +kernel
theorem dX2_titleWith_52 : decode cX2_titleWith 52 = .ok (.ireturn, 1) := by decide +kernel
theorem dX2_isIn_0 : decode cX2_isIn 0 = .ok (.iload_n 0, 1) := by decide +kernel
theorem dX2_isIn_1 : decode cX2_isIn 1 = .ok (.invokestatic 124, 3) := by decide +kernel
theorem dX2_isIn_4 : decode cX2_isIn 4 = .ok (.istore_n 2, 1) := by decide +kernel
theorem dX2_isIn_5 : decode cX2_isIn 5 = .ok (.iconst 0, 1) := by decide +kernel
theorem dX2_isIn_6 : decode cX2_isIn 6 = .ok (.istore_n 3, 1) := by decide +kernel
theorem dX2_isIn_7 : decode cX2_isIn 7 = .ok (.iload_n 3, 1) := by decide +kernel
theorem dX2_isIn_8 : decode cX2_isIn 8 = .ok (.iload_n 2, 1) := by decide +kernel
theorem dX2_isIn_9 : decode cX2_isIn 9 = .ok (.if_icmp .ge 20, 3) := by decide +kernel
theorem dX2_isIn_12 : decode cX2_isIn 12 = .ok (.iload_n 0, 1) := by decide +kernel
theorem dX2_isIn_13 : decode cX2_isIn 13 = .ok (.iload_n 3, 1) := by decide +kernel
theorem dX2_isIn_14 : decode cX2_isIn 14 = .ok (.invokestatic 127, 3) := by decide +kernel
theorem dX2_isIn_17 : decode cX2_isIn 17 = .ok (.iload_n 1, 1) := by decide +kernel
theorem dX2_isIn_18 : decode cX2_isIn 18 = .ok (.if_icmp .ne 5, 3) := by decide +kernel
theorem dX2_isIn_21 : decode cX2_isIn 21 = .ok (.iconst 1, 1) := by decide +kernel
theorem dX2_isIn_22 : decode cX2_isIn 22 = .ok (.ireturn, 1) := by decide +kernel
theorem dX2_isIn_23 : decode cX2_isIn 23 = .ok (.iinc 3 1, 3) := by decide +kernel
theorem dX2_isIn_26 : decode cX2_isIn 26 = .ok (.goto (-19), 3) := by decide +kernel
theorem dX2_isIn_29 : decode cX2_isIn 29 = .ok (.iconst 0, 1) := by decide +kernel
theorem dX2_isIn_30 : decode cX2_isIn 30 = .ok (.ireturn, 1) := by decide +kernel
theorem dX2_countLetters_0 : decode cX2_countLetters 0 = .ok (.iconst 0, 1) := by decide +kernel
theorem dX2_countLetters_1 : decode cX2_countLetters 1 = .ok (.istore_n 3, 1) := by decide +kernel
theorem dX2_countLetters_2 : decode cX2_countLetters 2 = .ok (.iload_n 3, 1) := by decide +kernel
theorem dX2_countLetters_3 : decode cX2_countLetters 3 = .ok (.bipush 26, 2) := by decide +kernel
theorem dX2_countLetters_5 : decode cX2_countLetters 5 = .ok (.if_icmp .ge 24, 3) := by decide +kernel
theorem dX2_countLetters_8 : decode cX2_countLetters 8 = .ok (.iload_n 3, 1) := by decide +kernel
theorem dX2_countLetters_9 : decode cX2_countLetters 9 = .ok (.aload_n 2, 1) := by decide +kernel
theorem dX2_countLetters_10 : decode cX2_countLetters 10 = .ok (.arraylength, 1) := by decide +kernel
theorem dX2_countLetters_11 : decode cX2_countLetters 11 = .ok (.if_icmp .ge 18, 3) := by decide +kernel
theorem dX2_countLetters_14 : decode cX2_countLetters 14 = .ok (.aload_n 2, 1) := by decide +kernel
theorem dX2_countLetters_15 : decode cX2_countLetters 15 = .ok (.iload_n 3, 1) := by decide +kernel
theorem dX2_countLetters_16 : decode cX2_countLetters 16 = .ok (.aload_n 0, 1) := by decide +kernel
theorem dX2_countLetters_17 : decode cX2_countLetters 17 = .ok (.iload_n 1, 1) := by decide +kernel
theorem dX2_countLetters_18 : decode cX2_countLetters 18 = .ok (.iload_n 3, 1) := by decide +kernel
theorem dX2_countLetters_19 : decode cX2_countLetters 19 = .ok (.invokevirtual 134, 3) := by decide +kernel
theorem dX2_countLetters_22 : decode cX2_countLetters 22 = .ok (.iastore, 1) := by decide +kernel
theorem dX2_countLetters_23 : decode cX2_countLetters 23 = .ok (.iinc 3 1, 3) := by decide +kernel
theorem dX2_countLetters_26 : decode cX2_countLetters 26 = .ok (.goto (-24), 3) := by decide +kernel
theorem dX2_countLetters_29 : decode cX2_countLetters 29 = .ok (.iconst 0, 1) := by decide +kernel
theorem dX2_countLetters_30 : decode cX2_countLetters 30 = .ok (.istore_n 3, 1) := by decide +kernel
theorem dX2_countLetters_31 : decode cX2_countLetters 31 = .ok (.iload_n 3, 1) := by decide +kernel
theorem dX2_countLetters_32 : decode cX2_countLetters 32 = .ok (.aload_n 0, 1) := by decide +kernel
theorem dX2_countLetters_33 : decode cX2_countLetters 33 = .ok (.getfield 9, 3) := by decide +kernel
theorem dX2_countLetters_36 : decode cX2_countLetters 36 = .ok (.getfield 97, 3) := by decide +kernel
theorem dX2_countLetters_39 : decode cX2_countLetters 39 = .ok (.getfield 103, 3) := by decide +kernel
theorem dX2_countLetters_42 : decode cX2_countLetters 42 = .ok (.if_icmp .ge 87, 3) := by decide +kernel
theorem dX2_countLetters_45 : decode cX2_countLetters 45 = .ok (.aload_n 0, 1) := by decide +kernel
theorem dX2_countLetters_46 : decode cX2_countLetters 46 = .ok (.iload_n 1, 1) := by decide +kernel
theorem dX2_countLetters_47 : decode cX2_countLetters 47 = .ok (.iload_n 3, 1) := by decide +kernel
theorem dX2_countLetters_48 : decode cX2_countLetters 48 = .ok (.invokevirtual 99, 3) := by decide +kernel
theorem dX2_countLetters_51 : decode cX2_countLetters 51 = .ok (.ifCond .eq 17, 3) := by decide +kernel
theorem dX2_countLetters_54 : decode cX2_countLetters 54 = .ok (.aload_n 0, 1) := by decide +kernel
theorem dX2_countLetters_55 : decode cX2_countLetters 55 = .ok (.getfield 9, 3) := by decide +kernel
theorem dX2_countLetters_58 : decode cX2_countLetters 58 = .ok (.getfield 97, 3) := by decide +kernel
theorem dX2_countLetters_61 : decode cX2_countLetters 61 = .ok (.iload_n 3, 1) := by decide +kernel
theorem dX2_countLetters_62 : decode cX2_countLetters 62 = .ok (.invokevirtual 120, 3) := by decide +kernel
theorem dX2_countLetters_65 : decode cX2_countLetters 65 = .ok (.goto 4, 3) := by decide +kernel
theorem dX2_countLetters_68 : decode cX2_countLetters 68 = .ok (.iconst 0, 1) := by decide +kernel
theorem dX2_countLetters_69 : decode cX2_countLetters 69 = .ok (.istore 4, 2) := by decide +kernel
theorem dX2_countLetters_71 : decode cX2_countLetters 71 = .ok (.iload 4, 2) := by decide +kernel
theorem dX2_countLetters_73 : decode cX2_countLetters 73 = .ok (.invokestatic 124, 3) := by decide +kernel
theorem dX2_countLetters_76 : decode cX2_countLetters 76 = .ok (.istore 5, 2) := by decide +kernel
theorem dX2_countLetters_78 : decode cX2_countLetters 78 = .ok (.iconst 0, 1) := by decide +kernel
theorem dX2_countLetters_79 : decode cX2_countLetters 79 = .ok (.istore 6, 2) := by decide +kernel
theorem dX2_countLetters_81 : decode cX2_countLetters 81 = .ok (.iload 6, 2) := by decide +kernel
theorem dX2_countLetters_83 : decode cX2_countLetters 83 = .ok (.iload 5, 2) := by decide +kernel
theorem dX2_countLetters_85 : decode cX2_countLetters 85 = .ok (.if_icmp .ge 38, 3) := by decide +kernel
theorem dX2_countLetters_88 : decode cX2_countLetters 88 = .ok (.iload 4, 2) := by decide +kernel
theorem dX2_countLetters_90 : decode cX2_countLetters 90 = .ok (.iload 6, 2) := by decide +kernel
theorem dX2_countLetters_92 : decode cX2_countLetters 92 = .ok (.invokestatic 127, 3) := by decide +kernel
theorem dX2_countLetters_95 : decode cX2_countLetters 95 = .ok (.istore 7, 2) := by decide +kernel
theorem dX2_countLetters_97 : decode cX2_countLetters 97 = .ok (.iload 7, 2) := by decide +kernel
theorem dX2_countLetters_99 : decode cX2_countLetters 99 = .ok (.ifCond .lt 18, 3) := by decide +kernel
theorem dX2_countLetters_102 : decode cX2_countLetters 102 = .ok (.iload 7, 2) := by decide +kernel
theorem dX2_countLetters_104 : decode cX2_countLetters 104 = .ok (.aload_n 2, 1) := by decide +kernel
theorem dX2_countLetters_105 : decode cX2_countLetters 105 = .ok (.arraylength, 1) := by decide +kernel
theorem dX2_countLetters_106 : decode cX2_countLetters 106 = .ok (.if_icmp .ge 11, 3) := by decide +kernel
theorem dX2_countLetters_109 : decode cX2_countLetters 109 = .ok (.aload_n 2, 1) := by decide +kernel
theorem dX2_countLetters_110 : decode cX2_countLetters 110 = .ok (.iload 7, 2) := by decide +kernel
theorem dX2_countLetters_112 : decode cX2_countLetters 112 = .ok (.dup2, 1) := by decide +kernel
theorem dX2_countLetters_113 : decode cX2_countLetters 113 = .ok (.iaload, 1) := by decide +kernel
theorem dX2_countLetters_114 : decode cX2_countLetters 114 = .ok (.iconst 1, 1) := by decide +kernel
theorem dX2_countLetters_115 : decode cX2_countLetters 115 = .ok (.iadd, 1) := by decide +kernel
theorem dX2_countLetters_116 : decode cX2_countLetters 116 = .ok (.iastore, 1) := by decide +kernel
theorem dX2_countLetters_117 : decode cX2_countLetters 117 = .ok (.iinc 6 1, 3) := by decide +kernel
theorem dX2_countLetters_120 : decode cX2_countLetters 120 = .ok (.goto (-39), 3) := by decide +kernel
theorem dX2_countLetters_123 : decode cX2_countLetters 123 = .ok (.iinc 3 1, 3) := by decide +kernel
theorem dX2_countLetters_126 : decode cX2_countLetters 126 = .ok (.goto (-95), 3) := by decide +kernel
theorem dX2_countLetters_129 : decode cX2_countLetters 129 = .ok (.return_, 1) := by decide +kernel
theorem dX2_calledBy_0 : decode cX2_calledBy 0 = .ok (.aload_n 0, 1) := by decide +kernel
theorem dX2_calledBy_1 : decode cX2_calledBy 1 = .ok (.iload_n 1, 1) := by decide +kernel
theorem dX2_calledBy_2 : decode cX2_calledBy 2 = .ok (.aload_n 0, 1) := by decide +kernel
theorem dX2_calledBy_3 : decode cX2_calledBy 3 = .ok (.getfield 38, 3) := by decide +kernel
theorem dX2_calledBy_6 : decode cX2_calledBy 6 = .ok (.invokevirtual 194, 3) := by decide +kernel
theorem dX2_calledBy_9 : decode cX2_calledBy 9 = .ok (.iconst 0, 1) := by decide +kernel
theorem dX2_calledBy_10 : decode cX2_calledBy 10 = .ok (.istore_n 2, 1) := by decide +kernel
theorem dX2_calledBy_11 : decode cX2_calledBy 11 = .ok (.iconst 0, 1) := by decide +kernel
theorem dX2_calledBy_12 : decode cX2_calledBy 12 = .ok (.istore_n 3, 1) := by decide +kernel
theorem dX2_calledBy_13 : decode cX2_calledBy 13 = .ok (.iload_n 3, 1) := by decide +kernel
theorem dX2_calledBy_14 : decode cX2_calledBy 14 = .ok (.aload_n 0, 1) := by decide +kernel
theorem dX2_calledBy_15 : decode cX2_calledBy 15 = .ok (.getfield 9, 3) := by decide +kernel
theorem dX2_calledBy_18 : decode cX2_calledBy 18 = .ok (.getfield 97, 3) := by decide +kernel
theorem dX2_calledBy_21 : decode cX2_calledBy 21 = .ok (.getfield 103, 3) := by decide +kernel
theorem dX2_calledBy_24 : decode cX2_calledBy 24 = .ok (.if_icmp .ge 23, 3) := by decide +kernel
theorem dX2_calledBy_27 : decode cX2_calledBy 27 = .ok (.aload_n 0, 1) := by decide +kernel
theorem dX2_calledBy_28 : decode cX2_calledBy 28 = .ok (.iload_n 3, 1) := by decide +kernel
theorem dX2_calledBy_29 : decode cX2_calledBy 29 = .ok (.invokevirtual 198, 3) := by decide +kernel
theorem dX2_calledBy_32 : decode cX2_calledBy 32 = .ok (.ifCond .eq 9, 3) := by decide +kernel
theorem dX2_calledBy_35 : decode cX2_calledBy 35 = .ok (.iload_n 2, 1) := by decide +kernel
theorem dX2_calledBy_36 : decode cX2_calledBy 36 = .ok (.iconst 1, 1) := by decide +kernel
theorem dX2_calledBy_37 : decode cX2_calledBy 37 = .ok (.iload_n 3, 1) := by decide +kernel
theorem dX2_calledBy_38 : decode cX2_calledBy 38 = .ok (.ishl, 1) := by decide +kernel
theorem dX2_calledBy_39 : decode cX2_calledBy 39 = .ok (.ior, 1) := by decide +kernel
theorem dX2_calledBy_40 : decode cX2_calledBy 40 = .ok (.istore_n 2, 1) := by decide +kernel
theorem dX2_calledBy_41 : decode cX2_calledBy 41 = .ok (.iinc 3 1, 3) := by decide +kernel
theorem dX2_calledBy_44 : decode cX2_calledBy 44 = .ok (.goto (-31), 3) := by decide +kernel
theorem dX2_calledBy_47 : decode cX2_calledBy 47 = .ok (.iload_n 2, 1) := by decide +kernel
theorem dX2_calledBy_48 : decode cX2_calledBy 48 = .ok (.ireturn, 1) := by decide +kernel
theorem dX2_canLay_0 : decode cX2_canLay 0 = .ok (.aload_n 0, 1) := by decide +kernel
theorem dX2_canLay_1 : decode cX2_canLay 1 = .ok (.getfield 9, 3) := by decide +kernel
theorem dX2_canLay_4 : decode cX2_canLay 4 = .ok (.getfield 97, 3) := by decide +kernel
theorem dX2_canLay_7 : decode cX2_canLay 7 = .ok (.iload_n 1, 1) := by decide +kernel
theorem dX2_canLay_8 : decode cX2_canLay 8 = .ok (.invokevirtual 120, 3) := by decide +kernel
theorem dX2_canLay_11 : decode cX2_canLay 11 = .ok (.istore_n 2, 1) := by decide +kernel
theorem dX2_canLay_12 : decode cX2_canLay 12 = .ok (.iload_n 2, 1) := by decide +kernel
theorem dX2_canLay_13 : decode cX2_canLay 13 = .ok (.invokestatic 124, 3) := by decide +kernel
theorem dX2_canLay_16 : decode cX2_canLay 16 = .ok (.istore_n 3, 1) := by decide +kernel
theorem dX2_canLay_17 : decode cX2_canLay 17 = .ok (.iconst 0, 1) := by decide +kernel
theorem dX2_canLay_18 : decode cX2_canLay 18 = .ok (.istore 4, 2) := by decide +kernel
theorem dX2_canLay_20 : decode cX2_canLay 20 = .ok (.iload 4, 2) := by decide +kernel
theorem dX2_canLay_22 : decode cX2_canLay 22 = .ok (.iload_n 3, 1) := by decide +kernel
theorem dX2_canLay_23 : decode cX2_canLay 23 = .ok (.if_icmp .ge 51, 3) := by decide +kernel
theorem dX2_canLay_26 : decode cX2_canLay 26 = .ok (.iload_n 2, 1) := by decide +kernel
theorem dX2_canLay_27 : decode cX2_canLay 27 = .ok (.iload 4, 2) := by decide +kernel
theorem dX2_canLay_29 : decode cX2_canLay 29 = .ok (.invokestatic 127, 3) := by decide +kernel
theorem dX2_canLay_32 : decode cX2_canLay 32 = .ok (.istore 5, 2) := by decide +kernel
theorem dX2_canLay_34 : decode cX2_canLay 34 = .ok (.iload 5, 2) := by decide +kernel
theorem dX2_canLay_36 : decode cX2_canLay 36 = .ok (.ifCond .lt 30, 3) := by decide +kernel
theorem dX2_canLay_39 : decode cX2_canLay 39 = .ok (.iload 5, 2) := by decide +kernel
theorem dX2_canLay_41 : decode cX2_canLay 41 = .ok (.bipush 26, 2) := by decide +kernel
theorem dX2_canLay_43 : decode cX2_canLay 43 = .ok (.if_icmp .ge 23, 3) := by decide +kernel
theorem dX2_canLay_46 : decode cX2_canLay 46 = .ok (.aload_n 0, 1) := by decide +kernel
theorem dX2_canLay_47 : decode cX2_canLay 47 = .ok (.getfield 9, 3) := by decide +kernel
theorem dX2_canLay_50 : decode cX2_canLay 50 = .ok (.iload_n 1, 1) := by decide +kernel
theorem dX2_canLay_51 : decode cX2_canLay 51 = .ok (.iload 4, 2) := by decide +kernel
theorem dX2_canLay_53 : decode cX2_canLay 53 = .ok (.invokevirtual 185, 3) := by decide +kernel
theorem dX2_canLay_56 : decode cX2_canLay 56 = .ok (.aload_n 0, 1) := by decide +kernel
theorem dX2_canLay_57 : decode cX2_canLay 57 = .ok (.getfield 38, 3) := by decide +kernel
theorem dX2_canLay_60 : decode cX2_canLay 60 = .ok (.iload 5, 2) := by decide +kernel
theorem dX2_canLay_62 : decode cX2_canLay 62 = .ok (.iaload, 1) := by decide +kernel
theorem dX2_canLay_63 : decode cX2_canLay 63 = .ok (.if_icmp .le 5, 3) := by decide +kernel
theorem dX2_canLay_66 : decode cX2_canLay 66 = .ok (.iconst 0, 1) := by decide +kernel
theorem dX2_canLay_67 : decode cX2_canLay 67 = .ok (.ireturn, 1) := by decide +kernel
theorem dX2_canLay_68 : decode cX2_canLay 68 = .ok (.iinc 4 1, 3) := by decide +kernel
theorem dX2_canLay_71 : decode cX2_canLay 71 = .ok (.goto (-51), 3) := by decide +kernel
theorem dX2_canLay_74 : decode cX2_canLay 74 = .ok (.iconst 1, 1) := by decide +kernel
theorem dX2_canLay_75 : decode cX2_canLay 75 = .ok (.ireturn, 1) := by decide +kernel
theorem dX2_sharedOunces_0 : decode cX2_sharedOunces 0 = .ok (.aload_n 0, 1) := by decide +kernel
theorem dX2_sharedOunces_1 : decode cX2_sharedOunces 1 = .ok (.iload_n 1, 1) := by decide +kernel
theorem dX2_sharedOunces_2 : decode cX2_sharedOunces 2 = .ok (.aload_n 0, 1) := by decide +kernel
theorem dX2_sharedOunces_3 : decode cX2_sharedOunces 3 = .ok (.getfield 38, 3) := by decide +kernel
theorem dX2_sharedOunces_6 : decode cX2_sharedOunces 6 = .ok (.invokevirtual 194, 3) := by decide +kernel
theorem dX2_sharedOunces_9 : decode cX2_sharedOunces 9 = .ok (.aload_n 0, 1) := by decide +kernel
theorem dX2_sharedOunces_10 : decode cX2_sharedOunces 10 = .ok (.iload_n 2, 1) := by decide +kernel
theorem dX2_sharedOunces_11 : decode cX2_sharedOunces 11 = .ok (.aload_n 0, 1) := by decide +kernel
theorem dX2_sharedOunces_12 : decode cX2_sharedOunces 12 = .ok (.getfield 41, 3) := by decide +kernel
theorem dX2_sharedOunces_15 : decode cX2_sharedOunces 15 = .ok (.invokevirtual 194, 3) := by decide +kernel
theorem dX2_sharedOunces_18 : decode cX2_sharedOunces 18 = .ok (.iconst 0, 1) := by decide +kernel
theorem dX2_sharedOunces_19 : decode cX2_sharedOunces 19 = .ok (.istore_n 3, 1) := by decide +kernel
theorem dX2_sharedOunces_20 : decode cX2_sharedOunces 20 = .ok (.iconst 0, 1) := by decide +kernel
theorem dX2_sharedOunces_21 : decode cX2_sharedOunces 21 = .ok (.istore 4, 2) := by decide +kernel
theorem dX2_sharedOunces_23 : decode cX2_sharedOunces 23 = .ok (.iload 4, 2) := by decide +kernel
theorem dX2_sharedOunces_25 : decode cX2_sharedOunces 25 = .ok (.bipush 26, 2) := by decide +kernel
theorem dX2_sharedOunces_27 : decode cX2_sharedOunces 27 = .ok (.if_icmp .ge 39, 3) := by decide +kernel
theorem dX2_sharedOunces_30 : decode cX2_sharedOunces 30 = .ok (.iload_n 3, 1) := by decide +kernel
theorem dX2_sharedOunces_31 : decode cX2_sharedOunces 31 = .ok (.aload_n 0, 1) := by decide +kernel
theorem dX2_sharedOunces_32 : decode cX2_sharedOunces 32 = .ok (.getfield 38, 3) := by decide +kernel
theorem dX2_sharedOunces_35 : decode cX2_sharedOunces 35 = .ok (.iload 4, 2) := by decide +kernel
theorem dX2_sharedOunces_37 : decode cX2_sharedOunces 37 = .ok (.iaload, 1) := by decide +kernel
theorem dX2_sharedOunces_38 : decode cX2_sharedOunces 38 = .ok (.aload_n 0, 1) := by decide +kernel
theorem dX2_sharedOunces_39 : decode cX2_sharedOunces 39 = .ok (.getfield 41, 3) := by decide +kernel
theorem dX2_sharedOunces_42 : decode cX2_sharedOunces 42 = .ok (.iload 4, 2) := by decide +kernel
theorem dX2_sharedOunces_44 : decode cX2_sharedOunces 44 = .ok (.iaload, 1) := by decide +kernel
theorem dX2_sharedOunces_45 : decode cX2_sharedOunces 45 = .ok (.invokestatic 182, 3) := by decide +kernel
theorem dX2_sharedOunces_48 : decode cX2_sharedOunces 48 = .ok (.aload_n 0, 1) := by decide +kernel
theorem dX2_sharedOunces_49 : decode cX2_sharedOunces 49 = .ok (.getfield 9, 3) := by decide +kernel
theorem dX2_sharedOunces_52 : decode cX2_sharedOunces 52 = .ok (.iload 4, 2) := by decide +kernel
theorem dX2_sharedOunces_54 : decode cX2_sharedOunces 54 = .ok (.invokevirtual 137, 3) := by decide +kernel
theorem dX2_sharedOunces_57 : decode cX2_sharedOunces 57 = .ok (.imul, 1) := by decide +kernel
theorem dX2_sharedOunces_58 : decode cX2_sharedOunces 58 = .ok (.iadd, 1) := by decide +kernel
theorem dX2_sharedOunces_59 : decode cX2_sharedOunces 59 = .ok (.istore_n 3, 1) := by decide +kernel
theorem dX2_sharedOunces_60 : decode cX2_sharedOunces 60 = .ok (.iinc 4 1, 3) := by decide +kernel
theorem dX2_sharedOunces_63 : decode cX2_sharedOunces 63 = .ok (.goto (-40), 3) := by decide +kernel
theorem dX2_sharedOunces_66 : decode cX2_sharedOunces 66 = .ok (.iload_n 3, 1) := by decide +kernel
theorem dX2_sharedOunces_67 : decode cX2_sharedOunces 67 = .ok (.ireturn, 1) := by decide +kernel
theorem dX3_write_0 : decode cX3_write 0 = .ok (.aload_n 0, 1) := by decide +kernel
theorem dX3_write_1 : decode cX3_write 1 = .ok (.iconst 0, 1) := by decide +kernel
theorem dX3_write_2 : decode cX3_write 2 = .ok (.putfield 15, 3) := by decide +kernel
theorem dX3_write_5 : decode cX3_write 5 = .ok (.aload_n 0, 1) := by decide +kernel
theorem dX3_write_6 : decode cX3_write 6 = .ok (.aload_n 1, 1) := by decide +kernel
theorem dX3_write_7 : decode cX3_write 7 = .ok (.getfield 19, 3) := by decide +kernel
theorem dX3_write_10 : decode cX3_write 10 = .ok (.iconst 2, 1) := by decide +kernel
theorem dX3_write_11 : decode cX3_write 11 = .ok (.invokevirtual 24, 3) := by decide +kernel
theorem dX3_write_14 : decode cX3_write 14 = .ok (.iconst 0, 1) := by decide +kernel
theorem dX3_write_15 : decode cX3_write 15 = .ok (.istore_n 2, 1) := by decide +kernel
theorem dX3_write_16 : decode cX3_write 16 = .ok (.iload_n 2, 1) := by decide +kernel
theorem dX3_write_17 : decode cX3_write 17 = .ok (.aload_n 1, 1) := by decide +kernel
theorem dX3_write_18 : decode cX3_write 18 = .ok (.getfield 28, 3) := by decide +kernel
theorem dX3_write_21 : decode cX3_write 21 = .ok (.getfield 32, 3) := by decide +kernel
theorem dX3_write_24 : decode cX3_write 24 = .ok (.getfield 38, 3) := by decide +kernel
theorem dX3_write_27 : decode cX3_write 27 = .ok (.if_icmp .ge 25, 3) := by decide +kernel
theorem dX3_write_30 : decode cX3_write 30 = .ok (.aload_n 0, 1) := by decide +kernel
theorem dX3_write_31 : decode cX3_write 31 = .ok (.aload_n 1, 1) := by decide +kernel
theorem dX3_write_32 : decode cX3_write 32 = .ok (.iload_n 2, 1) := by decide +kernel
theorem dX3_write_33 : decode cX3_write 33 = .ok (.invokevirtual 43, 3) := by decide +kernel
theorem dX3_write_36 : decode cX3_write 36 = .ok (.iconst 2, 1) := by decide +kernel
theorem dX3_write_37 : decode cX3_write 37 = .ok (.invokevirtual 24, 3) := by decide +kernel
theorem dX3_write_40 : decode cX3_write 40 = .ok (.aload_n 0, 1) := by decide +kernel
theorem dX3_write_41 : decode cX3_write 41 = .ok (.aload_n 1, 1) := by decide +kernel
theorem dX3_write_42 : decode cX3_write 42 = .ok (.iload_n 2, 1) := by decide +kernel
theorem dX3_write_43 : decode cX3_write 43 = .ok (.invokevirtual 47, 3) := by decide +kernel
theorem dX3_write_46 : decode cX3_write 46 = .ok (.iinc 2 1, 3) := by decide +kernel
theorem dX3_write_49 : decode cX3_write 49 = .ok (.goto (-33), 3) := by decide +kernel
theorem dX3_write_52 : decode cX3_write 52 = .ok (.aload_n 0, 1) := by decide +kernel
theorem dX3_write_53 : decode cX3_write 53 = .ok (.aload_n 1, 1) := by decide +kernel
theorem dX3_write_54 : decode cX3_write 54 = .ok (.bipush 8, 2) := by decide +kernel
theorem dX3_write_56 : decode cX3_write 56 = .ok (.invokevirtual 47, 3) := by decide +kernel
theorem dX3_write_59 : decode cX3_write 59 = .ok (.aload_n 0, 1) := by decide +kernel
theorem dX3_write_60 : decode cX3_write 60 = .ok (.aload_n 1, 1) := by decide +kernel
theorem dX3_write_61 : decode cX3_write 61 = .ok (.getfield 51, 3) := by decide +kernel
theorem dX3_write_64 : decode cX3_write 64 = .ok (.iconst 3, 1) := by decide +kernel
theorem dX3_write_65 : decode cX3_write 65 = .ok (.invokevirtual 24, 3) := by decide +kernel
theorem dX3_write_68 : decode cX3_write 68 = .ok (.aload_n 0, 1) := by decide +kernel
theorem dX3_write_69 : decode cX3_write 69 = .ok (.aload_n 1, 1) := by decide +kernel
theorem dX3_write_70 : decode cX3_write 70 = .ok (.getfield 54, 3) := by decide +kernel
theorem dX3_write_73 : decode cX3_write 73 = .ok (.iconst 1, 1) := by decide +kernel
theorem dX3_write_74 : decode cX3_write 74 = .ok (.invokevirtual 24, 3) := by decide +kernel
theorem dX3_write_77 : decode cX3_write 77 = .ok (.iconst 0, 1) := by decide +kernel
theorem dX3_write_78 : decode cX3_write 78 = .ok (.istore_n 2, 1) := by decide +kernel
theorem dX3_write_79 : decode cX3_write 79 = .ok (.iload_n 2, 1) := by decide +kernel
theorem dX3_write_80 : decode cX3_write 80 = .ok (.aload_n 1, 1) := by decide +kernel
theorem dX3_write_81 : decode cX3_write 81 = .ok (.getfield 54, 3) := by decide +kernel
theorem dX3_write_84 : decode cX3_write 84 = .ok (.if_icmp .ge 26, 3) := by decide +kernel
theorem dX3_write_87 : decode cX3_write 87 = .ok (.iload_n 2, 1) := by decide +kernel
theorem dX3_write_88 : decode cX3_write 88 = .ok (.bipush 30, 2) := by decide +kernel
theorem dX3_write_90 : decode cX3_write 90 = .ok (.if_icmp .ge 20, 3) := by decide +kernel
theorem dX3_write_93 : decode cX3_write 93 = .ok (.aload_n 0, 1) := by decide +kernel
theorem dX3_write_94 : decode cX3_write 94 = .ok (.aload_n 1, 1) := by decide +kernel
theorem dX3_write_95 : decode cX3_write 95 = .ok (.getfield 57, 3) := by decide +kernel
theorem dX3_write_98 : decode cX3_write 98 = .ok (.iload_n 2, 1) := by decide +kernel
theorem dX3_write_99 : decode cX3_write 99 = .ok (.iaload, 1) := by decide +kernel
theorem dX3_write_100 : decode cX3_write 100 = .ok (.iconst 2, 1) := by decide +kernel
theorem dX3_write_101 : decode cX3_write 101 = .ok (.invokevirtual 24, 3) := by decide +kernel
theorem dX3_write_104 : decode cX3_write 104 = .ok (.iinc 2 1, 3) := by decide +kernel
theorem dX3_write_107 : decode cX3_write 107 = .ok (.goto (-28), 3) := by decide +kernel
theorem dX3_write_110 : decode cX3_write 110 = .ok (.aload_n 0, 1) := by decide +kernel
theorem dX3_write_111 : decode cX3_write 111 = .ok (.aload_n 0, 1) := by decide +kernel
theorem dX3_write_112 : decode cX3_write 112 = .ok (.getfield 11, 3) := by decide +kernel
theorem dX3_write_115 : decode cX3_write 115 = .ok (.aload_n 0, 1) := by decide +kernel
theorem dX3_write_116 : decode cX3_write 116 = .ok (.getfield 15, 3) := by decide +kernel
theorem dX3_write_119 : decode cX3_write 119 = .ok (.invokestatic 60, 3) := by decide +kernel
theorem dX3_write_122 : decode cX3_write 122 = .ok (.iconst 1, 1) := by decide +kernel
theorem dX3_write_123 : decode cX3_write 123 = .ok (.invokevirtual 24, 3) := by decide +kernel
theorem dX3_write_126 : decode cX3_write 126 = .ok (.return_, 1) := by decide +kernel
theorem dX3_putLetters_0 : decode cX3_putLetters 0 = .ok (.iconst 0, 1) := by decide +kernel
theorem dX3_putLetters_1 : decode cX3_putLetters 1 = .ok (.istore_n 3, 1) := by decide +kernel
theorem dX3_putLetters_2 : decode cX3_putLetters 2 = .ok (.iload_n 3, 1) := by decide +kernel
theorem dX3_putLetters_3 : decode cX3_putLetters 3 = .ok (.bipush 26, 2) := by decide +kernel
theorem dX3_putLetters_5 : decode cX3_putLetters 5 = .ok (.if_icmp .ge 20, 3) := by decide +kernel
theorem dX3_putLetters_8 : decode cX3_putLetters 8 = .ok (.aload_n 0, 1) := by decide +kernel
theorem dX3_putLetters_9 : decode cX3_putLetters 9 = .ok (.aload_n 1, 1) := by decide +kernel
theorem dX3_putLetters_10 : decode cX3_putLetters 10 = .ok (.iload_n 2, 1) := by decide +kernel
theorem dX3_putLetters_11 : decode cX3_putLetters 11 = .ok (.iload_n 3, 1) := by decide +kernel
theorem dX3_putLetters_12 : decode cX3_putLetters 12 = .ok (.invokevirtual 64, 3) := by decide +kernel
theorem dX3_putLetters_15 : decode cX3_putLetters 15 = .ok (.iconst 2, 1) := by decide +kernel
theorem dX3_putLetters_16 : decode cX3_putLetters 16 = .ok (.invokevirtual 24, 3) := by decide +kernel
theorem dX3_putLetters_19 : decode cX3_putLetters 19 = .ok (.iinc 3 1, 3) := by decide +kernel
theorem dX3_putLetters_22 : decode cX3_putLetters 22 = .ok (.goto (-20), 3) := by decide +kernel
theorem dX3_putLetters_25 : decode cX3_putLetters 25 = .ok (.return_, 1) := by decide +kernel
theorem dX3_put_0 : decode cX3_put 0 = .ok (.bipush 8, 2) := by decide +kernel
theorem dX3_put_2 : decode cX3_put 2 = .ok (.iload_n 2, 1) := by decide +kernel
theorem dX3_put_3 : decode cX3_put 3 = .ok (.iconst 1, 1) := by decide +kernel
theorem dX3_put_4 : decode cX3_put 4 = .ok (.isub, 1) := by decide +kernel
theorem dX3_put_5 : decode cX3_put 5 = .ok (.imul, 1) := by decide +kernel
theorem dX3_put_6 : decode cX3_put 6 = .ok (.istore_n 3, 1) := by decide +kernel
theorem dX3_put_7 : decode cX3_put 7 = .ok (.iload_n 3, 1) := by decide +kernel
theorem dX3_put_8 : decode cX3_put 8 = .ok (.ifCond .lt 45, 3) := by decide +kernel
theorem dX3_put_11 : decode cX3_put 11 = .ok (.aload_n 0, 1) := by decide +kernel
theorem dX3_put_12 : decode cX3_put 12 = .ok (.getfield 15, 3) := by decide +kernel
theorem dX3_put_15 : decode cX3_put 15 = .ok (.sipush 551, 3) := by decide +kernel
theorem dX3_put_18 : decode cX3_put 18 = .ok (.if_icmp .ge 35, 3) := by decide +kernel
theorem dX3_put_21 : decode cX3_put 21 = .ok (.aload_n 0, 1) := by decide +kernel
theorem dX3_put_22 : decode cX3_put 22 = .ok (.getfield 11, 3) := by decide +kernel
theorem dX3_put_25 : decode cX3_put 25 = .ok (.aload_n 0, 1) := by decide +kernel
theorem dX3_put_26 : decode cX3_put 26 = .ok (.getfield 15, 3) := by decide +kernel
theorem dX3_put_29 : decode cX3_put 29 = .ok (.iload_n 1, 1) := by decide +kernel
theorem dX3_put_30 : decode cX3_put 30 = .ok (.iload_n 3, 1) := by decide +kernel
theorem dX3_put_31 : decode cX3_put 31 = .ok (.ishr, 1) := by decide +kernel
theorem dX3_put_32 : decode cX3_put 32 = .ok (.sipush 255, 3) := by decide +kernel
theorem dX3_put_35 : decode cX3_put 35 = .ok (.iand, 1) := by decide +kernel
theorem dX3_put_36 : decode cX3_put 36 = .ok (.iastore, 1) := by decide +kernel
theorem dX3_put_37 : decode cX3_put 37 = .ok (.aload_n 0, 1) := by decide +kernel
theorem dX3_put_38 : decode cX3_put 38 = .ok (.dup, 1) := by decide +kernel
theorem dX3_put_39 : decode cX3_put 39 = .ok (.getfield 15, 3) := by decide +kernel
theorem dX3_put_42 : decode cX3_put 42 = .ok (.iconst 1, 1) := by decide +kernel
theorem dX3_put_43 : decode cX3_put 43 = .ok (.iadd, 1) := by decide +kernel
theorem dX3_put_44 : decode cX3_put 44 = .ok (.putfield 15, 3) := by decide +kernel
theorem dX3_put_47 : decode cX3_put 47 = .ok (.iinc 3 (-8), 3) := by decide +kernel
theorem dX3_put_50 : decode cX3_put 50 = .ok (.goto (-43), 3) := by decide +kernel
theorem dX3_put_53 : decode cX3_put 53 = .ok (.return_, 1) := by decide +kernel
theorem dX3_seal_0 : decode cX3_seal 0 = .ok (.bipush 41, 2) := by decide +kernel
theorem dX3_seal_2 : decode cX3_seal 2 = .ok (.istore_n 2, 1) := by decide +kernel
theorem dX3_seal_3 : decode cX3_seal 3 = .ok (.iconst 0, 1) := by decide +kernel
theorem dX3_seal_4 : decode cX3_seal 4 = .ok (.istore_n 3, 1) := by decide +kernel
theorem dX3_seal_5 : decode cX3_seal 5 = .ok (.iload_n 3, 1) := by decide +kernel
theorem dX3_seal_6 : decode cX3_seal 6 = .ok (.iload_n 1, 1) := by decide +kernel
theorem dX3_seal_7 : decode cX3_seal 7 = .ok (.if_icmp .ge 27, 3) := by decide +kernel
theorem dX3_seal_10 : decode cX3_seal 10 = .ok (.iload_n 3, 1) := by decide +kernel
theorem dX3_seal_11 : decode cX3_seal 11 = .ok (.aload_n 0, 1) := by decide +kernel
theorem dX3_seal_12 : decode cX3_seal 12 = .ok (.arraylength, 1) := by decide +kernel
theorem dX3_seal_13 : decode cX3_seal 13 = .ok (.if_icmp .ge 21, 3) := by decide +kernel
theorem dX3_seal_16 : decode cX3_seal 16 = .ok (.iconst 3, 1) := by decide +kernel
theorem dX3_seal_17 : decode cX3_seal 17 = .ok (.iload_n 2, 1) := by decide +kernel
theorem dX3_seal_18 : decode cX3_seal 18 = .ok (.imul, 1) := by decide +kernel
theorem dX3_seal_19 : decode cX3_seal 19 = .ok (.aload_n 0, 1) := by decide +kernel
theorem dX3_seal_20 : decode cX3_seal 20 = .ok (.iload_n 3, 1) := by decide +kernel
theorem dX3_seal_21 : decode cX3_seal 21 = .ok (.iaload, 1) := by decide +kernel
theorem dX3_seal_22 : decode cX3_seal 22 = .ok (.iadd, 1) := by decide +kernel
theorem dX3_seal_23 : decode cX3_seal 23 = .ok (.sipush 239, 3) := by decide +kernel
theorem dX3_seal_26 : decode cX3_seal 26 = .ok (.irem, 1) := by decide +kernel
theorem dX3_seal_27 : decode cX3_seal 27 = .ok (.istore_n 2, 1) := by decide +kernel
theorem dX3_seal_28 : decode cX3_seal 28 = .ok (.iinc 3 1, 3) := by decide +kernel
theorem dX3_seal_31 : decode cX3_seal 31 = .ok (.goto (-26), 3) := by decide +kernel
theorem dX3_seal_34 : decode cX3_seal 34 = .ok (.iload_n 2, 1) := by decide +kernel
theorem dX3_seal_35 : decode cX3_seal 35 = .ok (.ireturn, 1) := by decide +kernel
theorem dX3_number_0 : decode cX3_number 0 = .ok (.iconst 0, 1) := by decide +kernel
theorem dX3_number_1 : decode cX3_number 1 = .ok (.istore_n 3, 1) := by decide +kernel
theorem dX3_number_2 : decode cX3_number 2 = .ok (.iload_n 1, 1) := by decide +kernel
theorem dX3_number_3 : decode cX3_number 3 = .ok (.istore 4, 2) := by decide +kernel
theorem dX3_number_5 : decode cX3_number 5 = .ok (.iload 4, 2) := by decide +kernel
theorem dX3_number_7 : decode cX3_number 7 = .ok (.iload_n 1, 1) := by decide +kernel
theorem dX3_number_8 : decode cX3_number 8 = .ok (.iload_n 2, 1) := by decide +kernel
theorem dX3_number_9 : decode cX3_number 9 = .ok (.iadd, 1) := by decide +kernel
theorem dX3_number_10 : decode cX3_number 10 = .ok (.if_icmp .ge 35, 3) := by decide +kernel
theorem dX3_number_13 : decode cX3_number 13 = .ok (.iload_n 3, 1) := by decide +kernel
theorem dX3_number_14 : decode cX3_number 14 = .ok (.bipush 8, 2) := by decide +kernel
theorem dX3_number_16 : decode cX3_number 16 = .ok (.ishl, 1) := by decide +kernel
theorem dX3_number_17 : decode cX3_number 17 = .ok (.iload 4, 2) := by decide +kernel
theorem dX3_number_19 : decode cX3_number 19 = .ok (.ifCond .lt 17, 3) := by decide +kernel
theorem dX3_number_22 : decode cX3_number 22 = .ok (.iload 4, 2) := by decide +kernel
theorem dX3_number_24 : decode cX3_number 24 = .ok (.aload_n 0, 1) := by decide +kernel
theorem dX3_number_25 : decode cX3_number 25 = .ok (.arraylength, 1) := by decide +kernel
theorem dX3_number_26 : decode cX3_number 26 = .ok (.if_icmp .ge 10, 3) := by decide +kernel
theorem dX3_number_29 : decode cX3_number 29 = .ok (.aload_n 0, 1) := by decide +kernel
theorem dX3_number_30 : decode cX3_number 30 = .ok (.iload 4, 2) := by decide +kernel
theorem dX3_number_32 : decode cX3_number 32 = .ok (.iaload, 1) := by decide +kernel
theorem dX3_number_33 : decode cX3_number 33 = .ok (.goto 4, 3) := by decide +kernel
theorem dX3_number_36 : decode cX3_number 36 = .ok (.iconst 0, 1) := by decide +kernel
theorem dX3_number_37 : decode cX3_number 37 = .ok (.ior, 1) := by decide +kernel
theorem dX3_number_38 : decode cX3_number 38 = .ok (.istore_n 3, 1) := by decide +kernel
theorem dX3_number_39 : decode cX3_number 39 = .ok (.iinc 4 1, 3) := by decide +kernel
theorem dX3_number_42 : decode cX3_number 42 = .ok (.goto (-37), 3) := by decide +kernel
theorem dX3_number_45 : decode cX3_number 45 = .ok (.iload_n 3, 1) := by decide +kernel
theorem dX3_number_46 : decode cX3_number 46 = .ok (.ireturn, 1) := by decide +kernel
theorem dX3_heapStart_0 : decode cX3_heapStart 0 = .ok (.iconst 2, 1) := by decide +kernel
theorem dX3_heapStart_1 : decode cX3_heapStart 1 = .ok (.aload_n 0, 1) := by decide +kernel
theorem dX3_heapStart_2 : decode cX3_heapStart 2 = .ok (.getfield 28, 3) := by decide +kernel
theorem dX3_heapStart_5 : decode cX3_heapStart 5 = .ok (.getfield 32, 3) := by decide +kernel
theorem dX3_heapStart_8 : decode cX3_heapStart 8 = .ok (.getfield 38, 3) := by decide +kernel
theorem dX3_heapStart_11 : decode cX3_heapStart 11 = .ok (.bipush 54, 2) := by decide +kernel
theorem dX3_heapStart_13 : decode cX3_heapStart 13 = .ok (.imul, 1) := by decide +kernel
theorem dX3_heapStart_14 : decode cX3_heapStart 14 = .ok (.iadd, 1) := by decide +kernel
theorem dX3_heapStart_15 : decode cX3_heapStart 15 = .ok (.ireturn, 1) := by decide +kernel
theorem dX3_riverStart_0 : decode cX3_riverStart 0 = .ok (.aload_n 0, 1) := by decide +kernel
theorem dX3_riverStart_1 : decode cX3_riverStart 1 = .ok (.invokestatic 68, 3) := by decide +kernel
theorem dX3_riverStart_4 : decode cX3_riverStart 4 = .ok (.bipush 52, 2) := by decide +kernel
theorem dX3_riverStart_6 : decode cX3_riverStart 6 = .ok (.iadd, 1) := by decide +kernel
theorem dX3_riverStart_7 : decode cX3_riverStart 7 = .ok (.ireturn, 1) := by decide +kernel
theorem dX3_fits_0 : decode cX3_fits 0 = .ok (.aload_n 2, 1) := by decide +kernel
theorem dX3_fits_1 : decode cX3_fits 1 = .ok (.invokestatic 72, 3) := by decide +kernel
theorem dX3_fits_4 : decode cX3_fits 4 = .ok (.istore_n 3, 1) := by decide +kernel
theorem dX3_fits_5 : decode cX3_fits 5 = .ok (.iload_n 1, 1) := by decide +kernel
theorem dX3_fits_6 : decode cX3_fits 6 = .ok (.iload_n 3, 1) := by decide +kernel
theorem dX3_fits_7 : decode cX3_fits 7 = .ok (.iconst 5, 1) := by decide +kernel
theorem dX3_fits_8 : decode cX3_fits 8 = .ok (.iadd, 1) := by decide +kernel
theorem dX3_fits_9 : decode cX3_fits 9 = .ok (.if_icmp .lt 9, 3) := by decide +kernel
theorem dX3_fits_12 : decode cX3_fits 12 = .ok (.iload_n 1, 1) := by decide +kernel
theorem dX3_fits_13 : decode cX3_fits 13 = .ok (.aload_n 0, 1) := by decide +kernel
theorem dX3_fits_14 : decode cX3_fits 14 = .ok (.arraylength, 1) := by decide +kernel
theorem dX3_fits_15 : decode cX3_fits 15 = .ok (.if_icmp .le 5, 3) := by decide +kernel
theorem dX3_fits_18 : decode cX3_fits 18 = .ok (.iconst 0, 1) := by decide +kernel
theorem dX3_fits_19 : decode cX3_fits 19 = .ok (.ireturn, 1) := by decide +kernel
theorem dX3_fits_20 : decode cX3_fits 20 = .ok (.aload_n 0, 1) := by decide +kernel
theorem dX3_fits_21 : decode cX3_fits 21 = .ok (.iload_n 3, 1) := by decide +kernel
theorem dX3_fits_22 : decode cX3_fits 22 = .ok (.iconst 3, 1) := by decide +kernel
theorem dX3_fits_23 : decode cX3_fits 23 = .ok (.iadd, 1) := by decide +kernel
theorem dX3_fits_24 : decode cX3_fits 24 = .ok (.iconst 1, 1) := by decide +kernel
theorem dX3_fits_25 : decode cX3_fits 25 = .ok (.invokestatic 75, 3) := by decide +kernel
theorem dX3_fits_28 : decode cX3_fits 28 = .ok (.istore 4, 2) := by decide +kernel
theorem dX3_fits_30 : decode cX3_fits 30 = .ok (.iload 4, 2) := by decide +kernel
theorem dX3_fits_32 : decode cX3_fits 32 = .ok (.bipush 30, 2) := by decide +kernel
theorem dX3_fits_34 : decode cX3_fits 34 = .ok (.if_icmp .gt 77, 3) := by decide +kernel
theorem dX3_fits_37 : decode cX3_fits 37 = .ok (.iload_n 1, 1) := by decide +kernel
theorem dX3_fits_38 : decode cX3_fits 38 = .ok (.iload_n 3, 1) := by decide +kernel
theorem dX3_fits_39 : decode cX3_fits 39 = .ok (.iconst 5, 1) := by decide +kernel
theorem dX3_fits_40 : decode cX3_fits 40 = .ok (.iadd, 1) := by decide +kernel
theorem dX3_fits_41 : decode cX3_fits 41 = .ok (.iconst 2, 1) := by decide +kernel
theorem dX3_fits_42 : decode cX3_fits 42 = .ok (.iload 4, 2) := by decide +kernel
theorem dX3_fits_44 : decode cX3_fits 44 = .ok (.imul, 1) := by decide +kernel
theorem dX3_fits_45 : decode cX3_fits 45 = .ok (.iadd, 1) := by decide +kernel
theorem dX3_fits_46 : decode cX3_fits 46 = .ok (.if_icmp .ne 65, 3) := by decide +kernel
theorem dX3_fits_49 : decode cX3_fits 49 = .ok (.aload_n 0, 1) := by decide +kernel
theorem dX3_fits_50 : decode cX3_fits 50 = .ok (.iload_n 1, 1) := by decide +kernel
theorem dX3_fits_51 : decode cX3_fits 51 = .ok (.iconst 1, 1) := by decide +kernel
theorem dX3_fits_52 : decode cX3_fits 52 = .ok (.isub, 1) := by decide +kernel
theorem dX3_fits_53 : decode cX3_fits 53 = .ok (.invokestatic 60, 3) := by decide +kernel
theorem dX3_fits_56 : decode cX3_fits 56 = .ok (.aload_n 0, 1) := by decide +kernel
theorem dX3_fits_57 : decode cX3_fits 57 = .ok (.iload_n 1, 1) := by decide +kernel
theorem dX3_fits_58 : decode cX3_fits 58 = .ok (.iconst 1, 1) := by decide +kernel
theorem dX3_fits_59 : decode cX3_fits 59 = .ok (.isub, 1) := by decide +kernel
theorem dX3_fits_60 : decode cX3_fits 60 = .ok (.iconst 1, 1) := by decide +kernel
theorem dX3_fits_61 : decode cX3_fits 61 = .ok (.invokestatic 75, 3) := by decide +kernel
theorem dX3_fits_64 : decode cX3_fits 64 = .ok (.if_icmp .ne 47, 3) := by decide +kernel
theorem dX3_fits_67 : decode cX3_fits 67 = .ok (.aload_n 0, 1) := by decide +kernel
theorem dX3_fits_68 : decode cX3_fits 68 = .ok (.iconst 0, 1) := by decide +kernel
theorem dX3_fits_69 : decode cX3_fits 69 = .ok (.iconst 2, 1) := by decide +kernel
theorem dX3_fits_70 : decode cX3_fits 70 = .ok (.invokestatic 75, 3) := by decide +kernel
theorem dX3_fits_73 : decode cX3_fits 73 = .ok (.sipush 999, 3) := by decide +kernel
theorem dX3_fits_76 : decode cX3_fits 76 = .ok (.if_icmp .gt 35, 3) := by decide +kernel
theorem dX3_fits_79 : decode cX3_fits 79 = .ok (.aload_n 0, 1) := by decide +kernel
theorem dX3_fits_80 : decode cX3_fits 80 = .ok (.aload_n 2, 1) := by decide +kernel
theorem dX3_fits_81 : decode cX3_fits 81 = .ok (.invokestatic 79, 3) := by decide +kernel
theorem dX3_fits_84 : decode cX3_fits 84 = .ok (.ifCond .eq 27, 3) := by decide +kernel
theorem dX3_fits_87 : decode cX3_fits 87 = .ok (.aload_n 0, 1) := by decide +kernel
theorem dX3_fits_88 : decode cX3_fits 88 = .ok (.iload_n 3, 1) := by decide +kernel
theorem dX3_fits_89 : decode cX3_fits 89 = .ok (.iconst 4, 1) := by decide +kernel
theorem dX3_fits_90 : decode cX3_fits 90 = .ok (.iadd, 1) := by decide +kernel
theorem dX3_fits_91 : decode cX3_fits 91 = .ok (.iload 4, 2) := by decide +kernel
theorem dX3_fits_93 : decode cX3_fits 93 = .ok (.invokestatic 83, 3) := by decide +kernel
theorem dX3_fits_96 : decode cX3_fits 96 = .ok (.ifCond .eq 15, 3) := by decide +kernel
theorem dX3_fits_99 : decode cX3_fits 99 = .ok (.aload_n 0, 1) := by decide +kernel
theorem dX3_fits_100 : decode cX3_fits 100 = .ok (.aload_n 2, 1) := by decide +kernel
theorem dX3_fits_101 : decode cX3_fits 101 = .ok (.invokestatic 87, 3) := by decide +kernel
theorem dX3_fits_104 : decode cX3_fits 104 = .ok (.ifCond .eq 7, 3) := by decide +kernel
theorem dX3_fits_107 : decode cX3_fits 107 = .ok (.iconst 1, 1) := by decide +kernel
theorem dX3_fits_108 : decode cX3_fits 108 = .ok (.goto 4, 3) := by decide +kernel
theorem dX3_fits_111 : decode cX3_fits 111 = .ok (.iconst 0, 1) := by decide +kernel
theorem dX3_fits_112 : decode cX3_fits 112 = .ok (.ireturn, 1) := by decide +kernel
theorem dX3_hasKnownTitles_0 : decode cX3_hasKnownTitles 0 = .ok (.iconst 0, 1) := by decide +kernel
theorem dX3_hasKnownTitles_1 : decode cX3_hasKnownTitles 1 = .ok (.istore_n 2, 1) := by decide +kernel
theorem dX3_hasKnownTitles_2 : decode cX3_hasKnownTitles 2 = .ok (.iload_n 2, 1) := by decide +kernel
theorem dX3_hasKnownTitles_3 : decode cX3_hasKnownTitles 3 = .ok (.aload_n 1, 1) := by decide +kernel
theorem dX3_hasKnownTitles_4 : decode cX3_hasKnownTitles 4 = .ok (.getfield 28, 3) := by decide +kernel
theorem dX3_hasKnownTitles_7 : decode cX3_hasKnownTitles 7 = .ok (.getfield 32, 3) := by decide +kernel
theorem dX3_hasKnownTitles_10 : decode cX3_hasKnownTitles 10 = .ok (.getfield 38, 3) := by decide +kernel
theorem dX3_hasKnownTitles_13 : decode cX3_hasKnownTitles 13 = .ok (.if_icmp .ge 32, 3) := by decide +kernel
theorem dX3_hasKnownTitles_16 : decode cX3_hasKnownTitles 16 = .ok (.aload_n 0, 1) := by decide +kernel
theorem dX3_hasKnownTitles_17 : decode cX3_hasKnownTitles 17 = .ok (.iconst 2, 1) := by decide +kernel
theorem dX3_hasKnownTitles_18 : decode cX3_hasKnownTitles 18 = .ok (.iload_n 2, 1) := by decide +kernel
theorem dX3_hasKnownTitles_19 : decode cX3_hasKnownTitles 19 = .ok (.bipush 54, 2) := by decide +kernel
theorem dX3_hasKnownTitles_21 : decode cX3_hasKnownTitles 21 = .ok (.imul, 1) := by decide +kernel
theorem dX3_hasKnownTitles_22 : decode cX3_hasKnownTitles 22 = .ok (.iadd, 1) := by decide +kernel
theorem dX3_hasKnownTitles_23 : decode cX3_hasKnownTitles 23 = .ok (.iconst 2, 1) := by decide +kernel
theorem dX3_hasKnownTitles_24 : decode cX3_hasKnownTitles 24 = .ok (.invokestatic 75, 3) := by decide +kernel
theorem dX3_hasKnownTitles_27 : decode cX3_hasKnownTitles 27 = .ok (.aload_n 1, 1) := by decide +kernel
theorem dX3_hasKnownTitles_28 : decode cX3_hasKnownTitles 28 = .ok (.getfield 28, 3) := by decide +kernel
theorem dX3_hasKnownTitles_31 : decode cX3_hasKnownTitles 31 = .ok (.invokevirtual 90, 3) := by decide +kernel
theorem dX3_hasKnownTitles_34 : decode cX3_hasKnownTitles 34 = .ok (.if_icmp .le 5, 3) := by decide +kernel
theorem dX3_hasKnownTitles_37 : decode cX3_hasKnownTitles 37 = .ok (.iconst 0, 1) := by decide +kernel
theorem dX3_hasKnownTitles_38 : decode cX3_hasKnownTitles 38 = .ok (.ireturn, 1) := by decide +kernel
theorem dX3_hasKnownTitles_39 : decode cX3_hasKnownTitles 39 = .ok (.iinc 2 1, 3) := by decide +kernel
theorem dX3_hasKnownTitles_42 : decode cX3_hasKnownTitles 42 = .ok (.goto (-40), 3) := by decide +kernel
theorem dX3_hasKnownTitles_45 : decode cX3_hasKnownTitles 45 = .ok (.iconst 1, 1) := by decide +kernel
theorem dX3_hasKnownTitles_46 : decode cX3_hasKnownTitles 46 = .ok (.ireturn, 1) := by decide +kernel
theorem dX3_hasRightBullets_0 : decode cX3_hasRightBullets 0 = .ok (.iconst 0, 1) := by decide +kernel
theorem dX3_hasRightBullets_1 : decode cX3_hasRightBullets 1 = .ok (.istore_n 3, 1) := by decide +kernel
theorem dX3_hasRightBullets_2 : decode cX3_hasRightBullets 2 = .ok (.iload_n 3, 1) := by decide +kernel
theorem dX3_hasRightBullets_3 : decode cX3_hasRightBullets 3 = .ok (.iload_n 2, 1) := by decide +kernel
theorem dX3_hasRightBullets_4 : decode cX3_hasRightBullets 4 = .ok (.if_icmp .ge 25, 3) := by decide +kernel
theorem dX3_hasRightBullets_7 : decode cX3_hasRightBullets 7 = .ok (.aload_n 0, 1) := by decide +kernel
theorem dX3_hasRightBullets_8 : decode cX3_hasRightBullets 8 = .ok (.iload_n 1, 1) := by decide +kernel
theorem dX3_hasRightBullets_9 : decode cX3_hasRightBullets 9 = .ok (.iconst 2, 1) := by decide +kernel
theorem dX3_hasRightBullets_10 : decode cX3_hasRightBullets 10 = .ok (.iload_n 3, 1) := by decide +kernel
theorem dX3_hasRightBullets_11 : decode cX3_hasRightBullets 11 = .ok (.imul, 1) := by decide +kernel
theorem dX3_hasRightBullets_12 : decode cX3_hasRightBullets 12 = .ok (.iadd, 1) := by decide +kernel
theorem dX3_hasRightBullets_13 : decode cX3_hasRightBullets 13 = .ok (.iconst 2, 1) := by decide +kernel
theorem dX3_hasRightBullets_14 : decode cX3_hasRightBullets 14 = .ok (.invokestatic 75, 3) := by decide +kernel
theorem dX3_hasRightBullets_17 : decode cX3_hasRightBullets 17 = .ok (.iconst 1, 1) := by decide +kernel
theorem dX3_hasRightBullets_18 : decode cX3_hasRightBullets 18 = .ok (.if_icmp .ge 5, 3) := by decide +kernel
theorem dX3_hasRightBullets_21 : decode cX3_hasRightBullets 21 = .ok (.iconst 0, 1) := by decide +kernel
theorem dX3_hasRightBullets_22 : decode cX3_hasRightBullets 22 = .ok (.ireturn, 1) := by decide +kernel
theorem dX3_hasRightBullets_23 : decode cX3_hasRightBullets 23 = .ok (.iinc 3 1, 3) := by decide +kernel
theorem dX3_hasRightBullets_26 : decode cX3_hasRightBullets 26 = .ok (.goto (-24), 3) := by decide +kernel
theorem dX3_hasRightBullets_29 : decode cX3_hasRightBullets 29 = .ok (.iconst 1, 1) := by decide +kernel
theorem dX3_hasRightBullets_30 : decode cX3_hasRightBullets 30 = .ok (.ireturn, 1) := by decide +kernel
theorem dX3_isLightEnough_0 : decode cX3_isLightEnough 0 = .ok (.aload_n 1, 1) := by decide +kernel
theorem dX3_isLightEnough_1 : decode cX3_isLightEnough 1 = .ok (.getfield 28, 3) := by decide +kernel
theorem dX3_isLightEnough_4 : decode cX3_isLightEnough 4 = .ok (.astore_n 2, 1) := by decide +kernel
theorem dX3_isLightEnough_5 : decode cX3_isLightEnough 5 = .ok (.aload_n 1, 1) := by decide +kernel
theorem dX3_isLightEnough_6 : decode cX3_isLightEnough 6 = .ok (.invokestatic 72, 3) := by decide +kernel
theorem dX3_isLightEnough_9 : decode cX3_isLightEnough 9 = .ok (.istore_n 3, 1) := by decide +kernel
theorem dX3_isLightEnough_10 : decode cX3_isLightEnough 10 = .ok (.aload_n 0, 1) := by decide +kernel
theorem dX3_isLightEnough_11 : decode cX3_isLightEnough 11 = .ok (.iload_n 3, 1) := by decide +kernel
theorem dX3_isLightEnough_12 : decode cX3_isLightEnough 12 = .ok (.iconst 3, 1) := by decide +kernel
theorem dX3_isLightEnough_13 : decode cX3_isLightEnough 13 = .ok (.invokestatic 75, 3) := by decide +kernel
theorem dX3_isLightEnough_16 : decode cX3_isLightEnough 16 = .ok (.i2l, 1) := by decide +kernel
theorem dX3_isLightEnough_17 : decode cX3_isLightEnough 17 = .ok (.lstore 4, 2) := by decide +kernel
theorem dX3_isLightEnough_19 : decode cX3_isLightEnough 19 = .ok (.lconst 0, 1) := by decide +kernel
theorem dX3_isLightEnough_20 : decode cX3_isLightEnough 20 = .ok (.lstore 6, 2) := by decide +kernel
theorem dX3_isLightEnough_22 : decode cX3_isLightEnough 22 = .ok (.aload_n 0, 1) := by decide +kernel
theorem dX3_isLightEnough_23 : decode cX3_isLightEnough 23 = .ok (.iload_n 3, 1) := by decide +kernel
theorem dX3_isLightEnough_24 : decode cX3_isLightEnough 24 = .ok (.iconst 3, 1) := by decide +kernel
theorem dX3_isLightEnough_25 : decode cX3_isLightEnough 25 = .ok (.iadd, 1) := by decide +kernel
theorem dX3_isLightEnough_26 : decode cX3_isLightEnough 26 = .ok (.iconst 1, 1) := by decide +kernel
theorem dX3_isLightEnough_27 : decode cX3_isLightEnough 27 = .ok (.invokestatic 75, 3) := by decide +kernel
theorem dX3_isLightEnough_30 : decode cX3_isLightEnough 30 = .ok (.istore 8, 2) := by decide +kernel
theorem dX3_isLightEnough_32 : decode cX3_isLightEnough 32 = .ok (.iconst 0, 1) := by decide +kernel
theorem dX3_isLightEnough_33 : decode cX3_isLightEnough 33 = .ok (.istore 9, 2) := by decide +kernel
theorem dX3_isLightEnough_35 : decode cX3_isLightEnough 35 = .ok (.iload 9, 2) := by decide +kernel
theorem dX3_isLightEnough_37 : decode cX3_isLightEnough 37 = .ok (.iload 8, 2) := by decide +kernel
theorem dX3_isLightEnough_39 : decode cX3_isLightEnough 39 = .ok (.if_icmp .ge 28, 3) := by decide +kernel
theorem dX3_isLightEnough_42 : decode cX3_isLightEnough 42 = .ok (.lload 4, 2) := by decide +kernel
theorem dX3_isLightEnough_44 : decode cX3_isLightEnough 44 = .ok (.aload_n 0, 1) := by decide +kernel
theorem dX3_isLightEnough_45 : decode cX3_isLightEnough 45 = .ok (.iload_n 3, 1) := by decide +kernel
theorem dX3_isLightEnough_46 : decode cX3_isLightEnough 46 = .ok (.iconst 4, 1) := by decide +kernel
theorem dX3_isLightEnough_47 : decode cX3_isLightEnough 47 = .ok (.iadd, 1) := by decide +kernel
theorem dX3_isLightEnough_48 : decode cX3_isLightEnough 48 = .ok (.iconst 2, 1) := by decide +kernel
theorem dX3_isLightEnough_49 : decode cX3_isLightEnough 49 = .ok (.iload 9, 2) := by decide +kernel
theorem dX3_isLightEnough_51 : decode cX3_isLightEnough 51 = .ok (.imul, 1) := by decide +kernel
theorem dX3_isLightEnough_52 : decode cX3_isLightEnough 52 = .ok (.iadd, 1) := by decide +kernel
theorem dX3_isLightEnough_53 : decode cX3_isLightEnough 53 = .ok (.iconst 2, 1) := by decide +kernel
theorem dX3_isLightEnough_54 : decode cX3_isLightEnough 54 = .ok (.invokestatic 75, 3) := by decide +kernel
theorem dX3_isLightEnough_57 : decode cX3_isLightEnough 57 = .ok (.i2l, 1) := by decide +kernel
theorem dX3_isLightEnough_58 : decode cX3_isLightEnough 58 = .ok (.ladd, 1) := by decide +kernel
theorem dX3_isLightEnough_59 : decode cX3_isLightEnough 59 = .ok (.lstore 4, 2) := by decide +kernel
theorem dX3_isLightEnough_61 : decode cX3_isLightEnough 61 = .ok (.iinc 9 1, 3) := by decide +kernel
theorem dX3_isLightEnough_64 : decode cX3_isLightEnough 64 = .ok (.goto (-29), 3) := by decide +kernel
theorem dX3_isLightEnough_67 : decode cX3_isLightEnough 67 = .ok (.iconst 0, 1) := by decide +kernel
theorem dX3_isLightEnough_68 : decode cX3_isLightEnough 68 = .ok (.istore 9, 2) := by decide +kernel
theorem dX3_isLightEnough_70 : decode cX3_isLightEnough 70 = .ok (.iload 9, 2) := by decide +kernel
theorem dX3_isLightEnough_72 : decode cX3_isLightEnough 72 = .ok (.aload_n 2, 1) := by decide +kernel
theorem dX3_isLightEnough_73 : decode cX3_isLightEnough 73 = .ok (.getfield 32, 3) := by decide +kernel
theorem dX3_isLightEnough_76 : decode cX3_isLightEnough 76 = .ok (.getfield 38, 3) := by decide +kernel
theorem dX3_isLightEnough_79 : decode cX3_isLightEnough 79 = .ok (.if_icmp .gt 144, 3) := by decide +kernel
theorem dX3_isLightEnough_82 : decode cX3_isLightEnough 82 = .ok (.iconst 2, 1) := by decide +kernel
theorem dX3_isLightEnough_83 : decode cX3_isLightEnough 83 = .ok (.iload 9, 2) := by decide +kernel
theorem dX3_isLightEnough_85 : decode cX3_isLightEnough 85 = .ok (.bipush 54, 2) := by decide +kernel
theorem dX3_isLightEnough_87 : decode cX3_isLightEnough 87 = .ok (.imul, 1) := by decide +kernel
theorem dX3_isLightEnough_88 : decode cX3_isLightEnough 88 = .ok (.iadd, 1) := by decide +kernel
theorem dX3_isLightEnough_89 : decode cX3_isLightEnough 89 = .ok (.istore 10, 2) := by decide +kernel
theorem dX3_isLightEnough_91 : decode cX3_isLightEnough 91 = .ok (.iload 9, 2) := by decide +kernel
theorem dX3_isLightEnough_93 : decode cX3_isLightEnough 93 = .ok (.aload_n 2, 1) := by decide +kernel
theorem dX3_isLightEnough_94 : decode cX3_isLightEnough 94 = .ok (.getfield 32, 3) := by decide +kernel
theorem dX3_isLightEnough_97 : decode cX3_isLightEnough 97 = .ok (.getfield 38, 3) := by decide +kernel
theorem dX3_isLightEnough_100 : decode cX3_isLightEnough 100 = .ok (.if_icmp .ne 7, 3) := by decide +kernel
theorem dX3_isLightEnough_103 : decode cX3_isLightEnough 103 = .ok (.iconst 1, 1) := by decide +kernel
theorem dX3_isLightEnough_104 : decode cX3_isLightEnough 104 = .ok (.goto 4, 3) := by decide +kernel
theorem dX3_isLightEnough_107 : decode cX3_isLightEnough 107 = .ok (.iconst 0, 1) := by decide +kernel
theorem dX3_isLightEnough_108 : decode cX3_isLightEnough 108 = .ok (.istore 11, 2) := by decide +kernel
theorem dX3_isLightEnough_110 : decode cX3_isLightEnough 110 = .ok (.iload 11, 2) := by decide +kernel
theorem dX3_isLightEnough_112 : decode cX3_isLightEnough 112 = .ok (.ifCond .eq 7, 3) := by decide +kernel
theorem dX3_isLightEnough_115 : decode cX3_isLightEnough 115 = .ok (.iconst 0, 1) := by decide +kernel
theorem dX3_isLightEnough_116 : decode cX3_isLightEnough 116 = .ok (.goto 10, 3) := by decide +kernel
theorem dX3_isLightEnough_119 : decode cX3_isLightEnough 119 = .ok (.aload_n 0, 1) := by decide +kernel
theorem dX3_isLightEnough_120 : decode cX3_isLightEnough 120 = .ok (.iload 10, 2) := by decide +kernel
theorem dX3_isLightEnough_122 : decode cX3_isLightEnough 122 = .ok (.iconst 2, 1) := by decide +kernel
theorem dX3_isLightEnough_123 : decode cX3_isLightEnough 123 = .ok (.invokestatic 75, 3) := by decide +kernel
theorem dX3_isLightEnough_126 : decode cX3_isLightEnough 126 = .ok (.istore 12, 2) := by decide +kernel
theorem dX3_isLightEnough_128 : decode cX3_isLightEnough 128 = .ok (.lload 4, 2) := by decide +kernel
theorem dX3_isLightEnough_130 : decode cX3_isLightEnough 130 = .ok (.aload_n 2, 1) := by decide +kernel
theorem dX3_isLightEnough_131 : decode cX3_isLightEnough 131 = .ok (.iload 12, 2) := by decide +kernel
theorem dX3_isLightEnough_133 : decode cX3_isLightEnough 133 = .ok (.invokevirtual 94, 3) := by decide +kernel
theorem dX3_isLightEnough_136 : decode cX3_isLightEnough 136 = .ok (.i2l, 1) := by decide +kernel
theorem dX3_isLightEnough_137 : decode cX3_isLightEnough 137 = .ok (.ladd, 1) := by decide +kernel
theorem dX3_isLightEnough_138 : decode cX3_isLightEnough 138 = .ok (.lstore 4, 2) := by decide +kernel
theorem dX3_isLightEnough_140 : decode cX3_isLightEnough 140 = .ok (.lload 6, 2) := by decide +kernel
theorem dX3_isLightEnough_142 : decode cX3_isLightEnough 142 = .ok (.aload_n 2, 1) := by decide +kernel
theorem dX3_isLightEnough_143 : decode cX3_isLightEnough 143 = .ok (.iload 12, 2) := by decide +kernel
theorem dX3_isLightEnough_145 : decode cX3_isLightEnough 145 = .ok (.invokestatic 97, 3) := by decide +kernel
theorem dX3_isLightEnough_148 : decode cX3_isLightEnough 148 = .ok (.i2l, 1) := by decide +kernel
theorem dX3_isLightEnough_149 : decode cX3_isLightEnough 149 = .ok (.ladd, 1) := by decide +kernel
theorem dX3_isLightEnough_150 : decode cX3_isLightEnough 150 = .ok (.lstore 6, 2) := by decide +kernel
theorem dX3_isLightEnough_152 : decode cX3_isLightEnough 152 = .ok (.iconst 0, 1) := by decide +kernel
theorem dX3_isLightEnough_153 : decode cX3_isLightEnough 153 = .ok (.istore 13, 2) := by decide +kernel
theorem dX3_isLightEnough_155 : decode cX3_isLightEnough 155 = .ok (.iload 13, 2) := by decide +kernel
theorem dX3_isLightEnough_157 : decode cX3_isLightEnough 157 = .ok (.bipush 26, 2) := by decide +kernel
theorem dX3_isLightEnough_159 : decode cX3_isLightEnough 159 = .ok (.if_icmp .ge 58, 3) := by decide +kernel
theorem dX3_isLightEnough_162 : decode cX3_isLightEnough 162 = .ok (.aload_n 0, 1) := by decide +kernel
theorem dX3_isLightEnough_163 : decode cX3_isLightEnough 163 = .ok (.iload 10, 2) := by decide +kernel
theorem dX3_isLightEnough_165 : decode cX3_isLightEnough 165 = .ok (.iload 11, 2) := by decide +kernel
theorem dX3_isLightEnough_167 : decode cX3_isLightEnough 167 = .ok (.ifCond .eq 7, 3) := by decide +kernel
theorem dX3_isLightEnough_170 : decode cX3_isLightEnough 170 = .ok (.iconst 0, 1) := by decide +kernel
theorem dX3_isLightEnough_171 : decode cX3_isLightEnough 171 = .ok (.goto 4, 3) := by decide +kernel
theorem dX3_isLightEnough_174 : decode cX3_isLightEnough 174 = .ok (.iconst 2, 1) := by decide +kernel
theorem dX3_isLightEnough_175 : decode cX3_isLightEnough 175 = .ok (.iadd, 1) := by decide +kernel
theorem dX3_isLightEnough_176 : decode cX3_isLightEnough 176 = .ok (.iconst 2, 1) := by decide +kernel
theorem dX3_isLightEnough_177 : decode cX3_isLightEnough 177 = .ok (.iload 13, 2) := by decide +kernel
theorem dX3_isLightEnough_179 : decode cX3_isLightEnough 179 = .ok (.imul, 1) := by decide +kernel
theorem dX3_isLightEnough_180 : decode cX3_isLightEnough 180 = .ok (.iadd, 1) := by decide +kernel
theorem dX3_isLightEnough_181 : decode cX3_isLightEnough 181 = .ok (.iconst 2, 1) := by decide +kernel
theorem dX3_isLightEnough_182 : decode cX3_isLightEnough 182 = .ok (.invokestatic 75, 3) := by decide +kernel
theorem dX3_isLightEnough_185 : decode cX3_isLightEnough 185 = .ok (.istore 14, 2) := by decide +kernel
theorem dX3_isLightEnough_187 : decode cX3_isLightEnough 187 = .ok (.lload 4, 2) := by decide +kernel
theorem dX3_isLightEnough_189 : decode cX3_isLightEnough 189 = .ok (.iload 14, 2) := by decide +kernel
theorem dX3_isLightEnough_191 : decode cX3_isLightEnough 191 = .ok (.i2l, 1) := by decide +kernel
theorem dX3_isLightEnough_192 : decode cX3_isLightEnough 192 = .ok (.aload_n 2, 1) := by decide +kernel
theorem dX3_isLightEnough_193 : decode cX3_isLightEnough 193 = .ok (.iload 13, 2) := by decide +kernel
theorem dX3_isLightEnough_195 : decode cX3_isLightEnough 195 = .ok (.invokevirtual 101, 3) := by decide +kernel
theorem dX3_isLightEnough_198 : decode cX3_isLightEnough 198 = .ok (.i2l, 1) := by decide +kernel
theorem dX3_isLightEnough_199 : decode cX3_isLightEnough 199 = .ok (.lmul, 1) := by decide +kernel
theorem dX3_isLightEnough_200 : decode cX3_isLightEnough 200 = .ok (.ladd, 1) := by decide +kernel
theorem dX3_isLightEnough_201 : decode cX3_isLightEnough 201 = .ok (.lstore 4, 2) := by decide +kernel
theorem dX3_isLightEnough_203 : decode cX3_isLightEnough 203 = .ok (.lload 6, 2) := by decide +kernel
theorem dX3_isLightEnough_205 : decode cX3_isLightEnough 205 = .ok (.iload 14, 2) := by decide +kernel
theorem dX3_isLightEnough_207 : decode cX3_isLightEnough 207 = .ok (.i2l, 1) := by decide +kernel
theorem dX3_isLightEnough_208 : decode cX3_isLightEnough 208 = .ok (.ladd, 1) := by decide +kernel
theorem dX3_isLightEnough_209 : decode cX3_isLightEnough 209 = .ok (.lstore 6, 2) := by decide +kernel
theorem dX3_isLightEnough_211 : decode cX3_isLightEnough 211 = .ok (.iinc 13 1, 3) := by decide +kernel
theorem dX3_isLightEnough_214 : decode cX3_isLightEnough 214 = .ok (.goto (-59), 3) := by decide +kernel
theorem dX3_isLightEnough_217 : decode cX3_isLightEnough 217 = .ok (.iinc 9 1, 3) := by decide +kernel
theorem dX3_isLightEnough_220 : decode cX3_isLightEnough 220 = .ok (.goto (-150), 3) := by decide +kernel
theorem dX3_isLightEnough_223 : decode cX3_isLightEnough 223 = .ok (.lload 4, 2) := by decide +kernel
theorem dX3_isLightEnough_225 : decode cX3_isLightEnough 225 = .ok (.ldc2_w 104, 3) := by decide +kernel
theorem dX3_isLightEnough_228 : decode cX3_isLightEnough 228 = .ok (.lcmp, 1) := by decide +kernel
theorem dX3_isLightEnough_229 : decode cX3_isLightEnough 229 = .ok (.ifCond .gt 16, 3) := by decide +kernel
theorem dX3_isLightEnough_232 : decode cX3_isLightEnough 232 = .ok (.lload 6, 2) := by decide +kernel
theorem dX3_isLightEnough_234 : decode cX3_isLightEnough 234 = .ok (.ldc2_w 106, 3) := by decide +kernel
theorem dX3_isLightEnough_237 : decode cX3_isLightEnough 237 = .ok (.lcmp, 1) := by decide +kernel
theorem dX3_isLightEnough_238 : decode cX3_isLightEnough 238 = .ok (.ifCond .gt 7, 3) := by decide +kernel
theorem dX3_isLightEnough_241 : decode cX3_isLightEnough 241 = .ok (.iconst 1, 1) := by decide +kernel
theorem dX3_isLightEnough_242 : decode cX3_isLightEnough 242 = .ok (.goto 4, 3) := by decide +kernel
theorem dX3_isLightEnough_245 : decode cX3_isLightEnough 245 = .ok (.iconst 0, 1) := by decide +kernel
theorem dX3_isLightEnough_246 : decode cX3_isLightEnough 246 = .ok (.ireturn, 1) := by decide +kernel
theorem dX3_lettersOfSet_0 : decode cX3_lettersOfSet 0 = .ok (.iconst 0, 1) := by decide +kernel
theorem dX3_lettersOfSet_1 : decode cX3_lettersOfSet 1 = .ok (.istore_n 2, 1) := by decide +kernel
theorem dX3_lettersOfSet_2 : decode cX3_lettersOfSet 2 = .ok (.iconst 0, 1) := by decide +kernel
theorem dX3_lettersOfSet_3 : decode cX3_lettersOfSet 3 = .ok (.istore_n 3, 1) := by decide +kernel
theorem dX3_lettersOfSet_4 : decode cX3_lettersOfSet 4 = .ok (.iload_n 3, 1) := by decide +kernel
theorem dX3_lettersOfSet_5 : decode cX3_lettersOfSet 5 = .ok (.aload_n 0, 1) := by decide +kernel
theorem dX3_lettersOfSet_6 : decode cX3_lettersOfSet 6 = .ok (.getfield 108, 3) := by decide +kernel
theorem dX3_lettersOfSet_9 : decode cX3_lettersOfSet 9 = .ok (.getfield 38, 3) := by decide +kernel
theorem dX3_lettersOfSet_12 : decode cX3_lettersOfSet 12 = .ok (.if_icmp .ge 35, 3) := by decide +kernel
theorem dX3_lettersOfSet_15 : decode cX3_lettersOfSet 15 = .ok (.iload_n 2, 1) := by decide +kernel
theorem dX3_lettersOfSet_16 : decode cX3_lettersOfSet 16 = .ok (.iload_n 1, 1) := by decide +kernel
theorem dX3_lettersOfSet_17 : decode cX3_lettersOfSet 17 = .ok (.iload_n 3, 1) := by decide +kernel
theorem dX3_lettersOfSet_18 : decode cX3_lettersOfSet 18 = .ok (.ishr, 1) := by decide +kernel
theorem dX3_lettersOfSet_19 : decode cX3_lettersOfSet 19 = .ok (.iconst 1, 1) := by decide +kernel
theorem dX3_lettersOfSet_20 : decode cX3_lettersOfSet 20 = .ok (.iand, 1) := by decide +kernel
theorem dX3_lettersOfSet_21 : decode cX3_lettersOfSet 21 = .ok (.ifCond .ne 7, 3) := by decide +kernel
theorem dX3_lettersOfSet_24 : decode cX3_lettersOfSet 24 = .ok (.iconst 0, 1) := by decide +kernel
theorem dX3_lettersOfSet_25 : decode cX3_lettersOfSet 25 = .ok (.goto 14, 3) := by decide +kernel
theorem dX3_lettersOfSet_28 : decode cX3_lettersOfSet 28 = .ok (.aload_n 0, 1) := by decide +kernel
theorem dX3_lettersOfSet_29 : decode cX3_lettersOfSet 29 = .ok (.getfield 108, 3) := by decide +kernel
theorem dX3_lettersOfSet_32 : decode cX3_lettersOfSet 32 = .ok (.iload_n 3, 1) := by decide +kernel
theorem dX3_lettersOfSet_33 : decode cX3_lettersOfSet 33 = .ok (.invokevirtual 111, 3) := by decide +kernel
theorem dX3_lettersOfSet_36 : decode cX3_lettersOfSet 36 = .ok (.invokestatic 114, 3) := by decide +kernel
theorem dX3_lettersOfSet_39 : decode cX3_lettersOfSet 39 = .ok (.iadd, 1) := by decide +kernel
theorem dX3_lettersOfSet_40 : decode cX3_lettersOfSet 40 = .ok (.istore_n 2, 1) := by decide +kernel
theorem dX3_lettersOfSet_41 : decode cX3_lettersOfSet 41 = .ok (.iinc 3 1, 3) := by decide +kernel
theorem dX3_lettersOfSet_44 : decode cX3_lettersOfSet 44 = .ok (.goto (-40), 3) := by decide +kernel
theorem dX3_lettersOfSet_47 : decode cX3_lettersOfSet 47 = .ok (.iload_n 2, 1) := by decide +kernel
theorem dX3_lettersOfSet_48 : decode cX3_lettersOfSet 48 = .ok (.ireturn, 1) := by decide +kernel
theorem dX3_restore_0 : decode cX3_restore 0 = .ok (.aload_n 1, 1) := by decide +kernel
theorem dX3_restore_1 : decode cX3_restore 1 = .ok (.aload_n 0, 1) := by decide +kernel
theorem dX3_restore_2 : decode cX3_restore 2 = .ok (.iconst 0, 1) := by decide +kernel
theorem dX3_restore_3 : decode cX3_restore 3 = .ok (.iconst 2, 1) := by decide +kernel
theorem dX3_restore_4 : decode cX3_restore 4 = .ok (.invokestatic 75, 3) := by decide +kernel
theorem dX3_restore_7 : decode cX3_restore 7 = .ok (.putfield 19, 3) := by decide +kernel
theorem dX3_restore_10 : decode cX3_restore 10 = .ok (.iconst 0, 1) := by decide +kernel
theorem dX3_restore_11 : decode cX3_restore 11 = .ok (.istore_n 2, 1) := by decide +kernel
theorem dX3_restore_12 : decode cX3_restore 12 = .ok (.iload_n 2, 1) := by decide +kernel
theorem dX3_restore_13 : decode cX3_restore 13 = .ok (.aload_n 1, 1) := by decide +kernel
theorem dX3_restore_14 : decode cX3_restore 14 = .ok (.getfield 28, 3) := by decide +kernel
theorem dX3_restore_17 : decode cX3_restore 17 = .ok (.getfield 32, 3) := by decide +kernel
theorem dX3_restore_20 : decode cX3_restore 20 = .ok (.getfield 38, 3) := by decide +kernel
theorem dX3_restore_23 : decode cX3_restore 23 = .ok (.if_icmp .ge 43, 3) := by decide +kernel
theorem dX3_restore_26 : decode cX3_restore 26 = .ok (.iload_n 2, 1) := by decide +kernel
theorem dX3_restore_27 : decode cX3_restore 27 = .ok (.bipush 8, 2) := by decide +kernel
theorem dX3_restore_29 : decode cX3_restore 29 = .ok (.if_icmp .ge 37, 3) := by decide +kernel
theorem dX3_restore_32 : decode cX3_restore 32 = .ok (.iconst 2, 1) := by decide +kernel
theorem dX3_restore_33 : decode cX3_restore 33 = .ok (.iload_n 2, 1) := by decide +kernel
theorem dX3_restore_34 : decode cX3_restore 34 = .ok (.bipush 54, 2) := by decide +kernel
theorem dX3_restore_36 : decode cX3_restore 36 = .ok (.imul, 1) := by decide +kernel
theorem dX3_restore_37 : decode cX3_restore 37 = .ok (.iadd, 1) := by decide +kernel
theorem dX3_restore_38 : decode cX3_restore 38 = .ok (.istore_n 3, 1) := by decide +kernel
theorem dX3_restore_39 : decode cX3_restore 39 = .ok (.aload_n 1, 1) := by decide +kernel
theorem dX3_restore_40 : decode cX3_restore 40 = .ok (.getfield 117, 3) := by decide +kernel
theorem dX3_restore_43 : decode cX3_restore 43 = .ok (.iload_n 2, 1) := by decide +kernel
theorem dX3_restore_44 : decode cX3_restore 44 = .ok (.aload_n 0, 1) := by decide +kernel
theorem dX3_restore_45 : decode cX3_restore 45 = .ok (.iload_n 3, 1) := by decide +kernel
theorem dX3_restore_46 : decode cX3_restore 46 = .ok (.iconst 2, 1) := by decide +kernel
theorem dX3_restore_47 : decode cX3_restore 47 = .ok (.invokestatic 75, 3) := by decide +kernel
theorem dX3_restore_50 : decode cX3_restore 50 = .ok (.iastore, 1) := by decide +kernel
theorem dX3_restore_51 : decode cX3_restore 51 = .ok (.aload_n 0, 1) := by decide +kernel
theorem dX3_restore_52 : decode cX3_restore 52 = .ok (.iload_n 3, 1) := by decide +kernel
theorem dX3_restore_53 : decode cX3_restore 53 = .ok (.iconst 2, 1) := by decide +kernel
theorem dX3_restore_54 : decode cX3_restore 54 = .ok (.iadd, 1) := by decide +kernel
theorem dX3_restore_55 : decode cX3_restore 55 = .ok (.aload_n 1, 1) := by decide +kernel
theorem dX3_restore_56 : decode cX3_restore 56 = .ok (.iload_n 2, 1) := by decide +kernel
theorem dX3_restore_57 : decode cX3_restore 57 = .ok (.invokestatic 119, 3) := by decide +kernel
theorem dX3_restore_60 : decode cX3_restore 60 = .ok (.iinc 2 1, 3) := by decide +kernel
theorem dX3_restore_63 : decode cX3_restore 63 = .ok (.goto (-51), 3) := by decide +kernel
theorem dX3_restore_66 : decode cX3_restore 66 = .ok (.aload_n 0, 1) := by decide +kernel
theorem dX3_restore_67 : decode cX3_restore 67 = .ok (.aload_n 1, 1) := by decide +kernel
theorem dX3_restore_68 : decode cX3_restore 68 = .ok (.invokestatic 68, 3) := by decide +kernel
theorem dX3_restore_71 : decode cX3_restore 71 = .ok (.aload_n 1, 1) := by decide +kernel
theorem dX3_restore_72 : decode cX3_restore 72 = .ok (.bipush 8, 2) := by decide +kernel
theorem dX3_restore_74 : decode cX3_restore 74 = .ok (.invokestatic 119, 3) := by decide +kernel
theorem dX3_restore_77 : decode cX3_restore 77 = .ok (.aload_n 1, 1) := by decide +kernel
theorem dX3_restore_78 : decode cX3_restore 78 = .ok (.invokestatic 72, 3) := by decide +kernel
theorem dX3_restore_81 : decode cX3_restore 81 = .ok (.istore_n 2, 1) := by decide +kernel
theorem dX3_restore_82 : decode cX3_restore 82 = .ok (.aload_n 1, 1) := by decide +kernel
theorem dX3_restore_83 : decode cX3_restore 83 = .ok (.aload_n 0, 1) := by decide +kernel
theorem dX3_restore_84 : decode cX3_restore 84 = .ok (.iload_n 2, 1) := by decide +kernel
theorem dX3_restore_85 : decode cX3_restore 85 = .ok (.iconst 3, 1) := by decide +kernel
theorem dX3_restore_86 : decode cX3_restore 86 = .ok (.invokestatic 75, 3) := by decide +kernel
theorem dX3_restore_89 : decode cX3_restore 89 = .ok (.putfield 51, 3) := by decide +kernel
theorem dX3_restore_92 : decode cX3_restore 92 = .ok (.aload_n 1, 1) := by decide +kernel
theorem dX3_restore_93 : decode cX3_restore 93 = .ok (.bipush 30, 2) := by decide +kernel
theorem dX3_restore_95 : decode cX3_restore 95 = .ok (.aload_n 0, 1) := by decide +kernel
theorem dX3_restore_96 : decode cX3_restore 96 = .ok (.iload_n 2, 1) := by decide +kernel
theorem dX3_restore_97 : decode cX3_restore 97 = .ok (.iconst 3, 1) := by decide +kernel
theorem dX3_restore_98 : decode cX3_restore 98 = .ok (.iadd, 1) := by decide +kernel
theorem dX3_restore_99 : decode cX3_restore 99 = .ok (.iconst 1, 1) := by decide +kernel
theorem dX3_restore_100 : decode cX3_restore 100 = .ok (.invokestatic 75, 3) := by decide +kernel
theorem dX3_restore_103 : decode cX3_restore 103 = .ok (.invokestatic 123, 3) := by decide +kernel
theorem dX3_restore_106 : decode cX3_restore 106 = .ok (.putfield 54, 3) := by decide +kernel
theorem dX3_restore_109 : decode cX3_restore 109 = .ok (.iconst 0, 1) := by decide +kernel
theorem dX3_restore_110 : decode cX3_restore 110 = .ok (.istore_n 3, 1) := by decide +kernel
theorem dX3_restore_111 : decode cX3_restore 111 = .ok (.iload_n 3, 1) := by decide +kernel
theorem dX3_restore_112 : decode cX3_restore 112 = .ok (.aload_n 1, 1) := by decide +kernel
theorem dX3_restore_113 : decode cX3_restore 113 = .ok (.getfield 54, 3) := by decide +kernel
theorem dX3_restore_116 : decode cX3_restore 116 = .ok (.if_icmp .ge 27, 3) := by decide +kernel
theorem dX3_restore_119 : decode cX3_restore 119 = .ok (.aload_n 1, 1) := by decide +kernel
theorem dX3_restore_120 : decode cX3_restore 120 = .ok (.getfield 57, 3) := by decide +kernel
theorem dX3_restore_123 : decode cX3_restore 123 = .ok (.iload_n 3, 1) := by decide +kernel
theorem dX3_restore_124 : decode cX3_restore 124 = .ok (.aload_n 0, 1) := by decide +kernel
theorem dX3_restore_125 : decode cX3_restore 125 = .ok (.iload_n 2, 1) := by decide +kernel
theorem dX3_restore_126 : decode cX3_restore 126 = .ok (.iconst 4, 1) := by decide +kernel
theorem dX3_restore_127 : decode cX3_restore 127 = .ok (.iadd, 1) := by decide +kernel
theorem dX3_restore_128 : decode cX3_restore 128 = .ok (.iconst 2, 1) := by decide +kernel
theorem dX3_restore_129 : decode cX3_restore 129 = .ok (.iload_n 3, 1) := by decide +kernel
theorem dX3_restore_130 : decode cX3_restore 130 = .ok (.imul, 1) := by decide +kernel
theorem dX3_restore_131 : decode cX3_restore 131 = .ok (.iadd, 1) := by decide +kernel
theorem dX3_restore_132 : decode cX3_restore 132 = .ok (.iconst 2, 1) := by decide +kernel
theorem dX3_restore_133 : decode cX3_restore 133 = .ok (.invokestatic 75, 3) := by decide +kernel
theorem dX3_restore_136 : decode cX3_restore 136 = .ok (.iastore, 1) := by decide +kernel
theorem dX3_restore_137 : decode cX3_restore 137 = .ok (.iinc 3 1, 3) := by decide +kernel
theorem dX3_restore_140 : decode cX3_restore 140 = .ok (.goto (-29), 3) := by decide +kernel
theorem dX3_restore_143 : decode cX3_restore 143 = .ok (.aload_n 1, 1) := by decide +kernel
theorem dX3_restore_144 : decode cX3_restore 144 = .ok (.invokevirtual 128, 3) := by decide +kernel
theorem dX3_restore_147 : decode cX3_restore 147 = .ok (.return_, 1) := by decide +kernel
theorem dX3_restoreLetters_0 : decode cX3_restoreLetters 0 = .ok (.iconst 0, 1) := by decide +kernel
theorem dX3_restoreLetters_1 : decode cX3_restoreLetters 1 = .ok (.istore 4, 2) := by decide +kernel
theorem dX3_restoreLetters_3 : decode cX3_restoreLetters 3 = .ok (.iload 4, 2) := by decide +kernel
theorem dX3_restoreLetters_5 : decode cX3_restoreLetters 5 = .ok (.bipush 26, 2) := by decide +kernel
theorem dX3_restoreLetters_7 : decode cX3_restoreLetters 7 = .ok (.if_icmp .ge 39, 3) := by decide +kernel
theorem dX3_restoreLetters_10 : decode cX3_restoreLetters 10 = .ok (.aload_n 0, 1) := by decide +kernel
theorem dX3_restoreLetters_11 : decode cX3_restoreLetters 11 = .ok (.iload_n 1, 1) := by decide +kernel
theorem dX3_restoreLetters_12 : decode cX3_restoreLetters 12 = .ok (.iconst 2, 1) := by decide +kernel
theorem dX3_restoreLetters_13 : decode cX3_restoreLetters 13 = .ok (.iload 4, 2) := by decide +kernel
theorem dX3_restoreLetters_15 : decode cX3_restoreLetters 15 = .ok (.imul, 1) := by decide +kernel
theorem dX3_restoreLetters_16 : decode cX3_restoreLetters 16 = .ok (.iadd, 1) := by decide +kernel
theorem dX3_restoreLetters_17 : decode cX3_restoreLetters 17 = .ok (.iconst 2, 1) := by decide +kernel
theorem dX3_restoreLetters_18 : decode cX3_restoreLetters 18 = .ok (.invokestatic 75, 3) := by decide +kernel
theorem dX3_restoreLetters_21 : decode cX3_restoreLetters 21 = .ok (.istore 5, 2) := by decide +kernel
theorem dX3_restoreLetters_23 : decode cX3_restoreLetters 23 = .ok (.aload_n 2, 1) := by decide +kernel
theorem dX3_restoreLetters_24 : decode cX3_restoreLetters 24 = .ok (.iload_n 3, 1) := by decide +kernel
theorem dX3_restoreLetters_25 : decode cX3_restoreLetters 25 = .ok (.iload 4, 2) := by decide +kernel
theorem dX3_restoreLetters_27 : decode cX3_restoreLetters 27 = .ok (.iload 5, 2) := by decide +kernel
theorem dX3_restoreLetters_29 : decode cX3_restoreLetters 29 = .ok (.aload_n 2, 1) := by decide +kernel
theorem dX3_restoreLetters_30 : decode cX3_restoreLetters 30 = .ok (.iload_n 3, 1) := by decide +kernel
theorem dX3_restoreLetters_31 : decode cX3_restoreLetters 31 = .ok (.iload 4, 2) := by decide +kernel
theorem dX3_restoreLetters_33 : decode cX3_restoreLetters 33 = .ok (.invokevirtual 64, 3) := by decide +kernel
theorem dX3_restoreLetters_36 : decode cX3_restoreLetters 36 = .ok (.isub, 1) := by decide +kernel
theorem dX3_restoreLetters_37 : decode cX3_restoreLetters 37 = .ok (.invokevirtual 131, 3) := by decide +kernel
theorem dX3_restoreLetters_40 : decode cX3_restoreLetters 40 = .ok (.iinc 4 1, 3) := by decide +kernel
theorem dX3_restoreLetters_43 : decode cX3_restoreLetters 43 = .ok (.goto (-40), 3) := by decide +kernel
theorem dX3_restoreLetters_46 : decode cX3_restoreLetters 46 = .ok (.return_, 1) := by decide +kernel
theorem dX4_clear_0 : decode cX4_clear 0 = .ok (.aload_n 0, 1) := by decide +kernel
theorem dX4_clear_1 : decode cX4_clear 1 = .ok (.getfield 14, 3) := by decide +kernel
theorem dX4_clear_4 : decode cX4_clear 4 = .ok (.iconst 0, 1) := by decide +kernel
theorem dX4_clear_5 : decode cX4_clear 5 = .ok (.putfield 51, 3) := by decide +kernel
theorem dX4_clear_8 : decode cX4_clear 8 = .ok (.aload_n 0, 1) := by decide +kernel
theorem dX4_clear_9 : decode cX4_clear 9 = .ok (.getfield 20, 3) := by decide +kernel
theorem dX4_clear_12 : decode cX4_clear 12 = .ok (.iconst 0, 1) := by decide +kernel
theorem dX4_clear_13 : decode cX4_clear 13 = .ok (.putfield 51, 3) := by decide +kernel
theorem dX4_clear_16 : decode cX4_clear 16 = .ok (.aload_n 0, 1) := by decide +kernel
theorem dX4_clear_17 : decode cX4_clear 17 = .ok (.getfield 23, 3) := by decide +kernel
theorem dX4_clear_20 : decode cX4_clear 20 = .ok (.iconst 0, 1) := by decide +kernel
theorem dX4_clear_21 : decode cX4_clear 21 = .ok (.putfield 51, 3) := by decide +kernel
theorem dX4_clear_24 : decode cX4_clear 24 = .ok (.aload_n 0, 1) := by decide +kernel
theorem dX4_clear_25 : decode cX4_clear 25 = .ok (.getfield 26, 3) := by decide +kernel
theorem dX4_clear_28 : decode cX4_clear 28 = .ok (.iconst 0, 1) := by decide +kernel
theorem dX4_clear_29 : decode cX4_clear 29 = .ok (.putfield 51, 3) := by decide +kernel
theorem dX4_clear_32 : decode cX4_clear 32 = .ok (.aload_n 0, 1) := by decide +kernel
theorem dX4_clear_33 : decode cX4_clear 33 = .ok (.getfield 29, 3) := by decide +kernel
theorem dX4_clear_36 : decode cX4_clear 36 = .ok (.iconst 0, 1) := by decide +kernel
theorem dX4_clear_37 : decode cX4_clear 37 = .ok (.putfield 51, 3) := by decide +kernel
theorem dX4_clear_40 : decode cX4_clear 40 = .ok (.aload_n 0, 1) := by decide +kernel
theorem dX4_clear_41 : decode cX4_clear 41 = .ok (.getfield 32, 3) := by decide +kernel
theorem dX4_clear_44 : decode cX4_clear 44 = .ok (.bipush 10, 2) := by decide +kernel
theorem dX4_clear_46 : decode cX4_clear 46 = .ok (.invokestatic 45, 3) := by decide +kernel
theorem dX4_clear_49 : decode cX4_clear 49 = .ok (.aload_n 0, 1) := by decide +kernel
theorem dX4_clear_50 : decode cX4_clear 50 = .ok (.getfield 36, 3) := by decide +kernel
theorem dX4_clear_53 : decode cX4_clear 53 = .ok (.iconst 0, 1) := by decide +kernel
theorem dX4_clear_54 : decode cX4_clear 54 = .ok (.invokestatic 45, 3) := by decide +kernel
theorem dX4_clear_57 : decode cX4_clear 57 = .ok (.aload_n 0, 1) := by decide +kernel
theorem dX4_clear_58 : decode cX4_clear 58 = .ok (.getfield 39, 3) := by decide +kernel
theorem dX4_clear_61 : decode cX4_clear 61 = .ok (.iconst 0, 1) := by decide +kernel
theorem dX4_clear_62 : decode cX4_clear 62 = .ok (.invokestatic 45, 3) := by decide +kernel
theorem dX4_clear_65 : decode cX4_clear 65 = .ok (.aload_n 0, 1) := by decide +kernel
theorem dX4_clear_66 : decode cX4_clear 66 = .ok (.iconst 0, 1) := by decide +kernel
theorem dX4_clear_67 : decode cX4_clear 67 = .ok (.putfield 55, 3) := by decide +kernel
theorem dX4_clear_70 : decode cX4_clear 70 = .ok (.aload_n 0, 1) := by decide +kernel
theorem dX4_clear_71 : decode cX4_clear 71 = .ok (.iconst 0, 1) := by decide +kernel
theorem dX4_clear_72 : decode cX4_clear 72 = .ok (.putfield 58, 3) := by decide +kernel
theorem dX4_clear_75 : decode cX4_clear 75 = .ok (.return_, 1) := by decide +kernel
theorem dX4_addCode_0 : decode cX4_addCode 0 = .ok (.aload_n 0, 1) := by decide +kernel
theorem dX4_addCode_1 : decode cX4_addCode 1 = .ok (.getfield 55, 3) := by decide +kernel
theorem dX4_addCode_4 : decode cX4_addCode 4 = .ok (.sipush 1600, 3) := by decide +kernel
theorem dX4_addCode_7 : decode cX4_addCode 7 = .ok (.if_icmp .lt 5, 3) := by decide +kernel
theorem dX4_addCode_10 : decode cX4_addCode 10 = .ok (.iconst 0, 1) := by decide +kernel
theorem dX4_addCode_11 : decode cX4_addCode 11 = .ok (.ireturn, 1) := by decide +kernel
theorem dX4_addCode_12 : decode cX4_addCode 12 = .ok (.aload_n 0, 1) := by decide +kernel
theorem dX4_addCode_13 : decode cX4_addCode 13 = .ok (.getfield 42, 3) := by decide +kernel
theorem dX4_addCode_16 : decode cX4_addCode 16 = .ok (.aload_n 0, 1) := by decide +kernel
theorem dX4_addCode_17 : decode cX4_addCode 17 = .ok (.getfield 55, 3) := by decide +kernel
theorem dX4_addCode_20 : decode cX4_addCode 20 = .ok (.iload_n 1, 1) := by decide +kernel
theorem dX4_addCode_21 : decode cX4_addCode 21 = .ok (.iastore, 1) := by decide +kernel
theorem dX4_addCode_22 : decode cX4_addCode 22 = .ok (.aload_n 0, 1) := by decide +kernel
theorem dX4_addCode_23 : decode cX4_addCode 23 = .ok (.dup, 1) := by decide +kernel
theorem dX4_addCode_24 : decode cX4_addCode 24 = .ok (.getfield 55, 3) := by decide +kernel
theorem dX4_addCode_27 : decode cX4_addCode 27 = .ok (.iconst 1, 1) := by decide +kernel
theorem dX4_addCode_28 : decode cX4_addCode 28 = .ok (.iadd, 1) := by decide +kernel
theorem dX4_addCode_29 : decode cX4_addCode 29 = .ok (.putfield 55, 3) := by decide +kernel
theorem dX4_addCode_32 : decode cX4_addCode 32 = .ok (.iconst 1, 1) := by decide +kernel
theorem dX4_addCode_33 : decode cX4_addCode 33 = .ok (.ireturn, 1) := by decide +kernel
theorem dX4_isNamed_0 : decode cX4_isNamed 0 = .ok (.aload_n 0, 1) := by decide +kernel
theorem dX4_isNamed_1 : decode cX4_isNamed 1 = .ok (.getfield 14, 3) := by decide +kernel
theorem dX4_isNamed_4 : decode cX4_isNamed 4 = .ok (.iload_n 1, 1) := by decide +kernel
theorem dX4_isNamed_5 : decode cX4_isNamed 5 = .ok (.invokevirtual 61, 3) := by decide +kernel
theorem dX4_isNamed_8 : decode cX4_isNamed 8 = .ok (.iconst (-1), 1) := by decide +kernel
theorem dX4_isNamed_9 : decode cX4_isNamed 9 = .ok (.if_icmp .ne 27, 3) := by decide +kernel
theorem dX4_isNamed_12 : decode cX4_isNamed 12 = .ok (.aload_n 0, 1) := by decide +kernel
theorem dX4_isNamed_13 : decode cX4_isNamed 13 = .ok (.getfield 20, 3) := by decide +kernel
theorem dX4_isNamed_16 : decode cX4_isNamed 16 = .ok (.iload_n 1, 1) := by decide +kernel
theorem dX4_isNamed_17 : decode cX4_isNamed 17 = .ok (.invokevirtual 61, 3) := by decide +kernel
theorem dX4_isNamed_20 : decode cX4_isNamed 20 = .ok (.iconst (-1), 1) := by decide +kernel
theorem dX4_isNamed_21 : decode cX4_isNamed 21 = .ok (.if_icmp .ne 15, 3) := by decide +kernel
theorem dX4_isNamed_24 : decode cX4_isNamed 24 = .ok (.aload_n 0, 1) := by decide +kernel
theorem dX4_isNamed_25 : decode cX4_isNamed 25 = .ok (.getfield 29, 3) := by decide +kernel
theorem dX4_isNamed_28 : decode cX4_isNamed 28 = .ok (.iload_n 1, 1) := by decide +kernel
theorem dX4_isNamed_29 : decode cX4_isNamed 29 = .ok (.invokevirtual 61, 3) := by decide +kernel
theorem dX4_isNamed_32 : decode cX4_isNamed 32 = .ok (.iconst (-1), 1) := by decide +kernel
theorem dX4_isNamed_33 : decode cX4_isNamed 33 = .ok (.if_icmp .eq 7, 3) := by decide +kernel
theorem dX4_isNamed_36 : decode cX4_isNamed 36 = .ok (.iconst 1, 1) := by decide +kernel
theorem dX4_isNamed_37 : decode cX4_isNamed 37 = .ok (.goto 4, 3) := by decide +kernel
theorem dX4_isNamed_40 : decode cX4_isNamed 40 = .ok (.iconst 0, 1) := by decide +kernel
theorem dX4_isNamed_41 : decode cX4_isNamed 41 = .ok (.ireturn, 1) := by decide +kernel
theorem dX4_allTitles_0 : decode cX4_allTitles 0 = .ok (.iconst 1, 1) := by decide +kernel
theorem dX4_allTitles_1 : decode cX4_allTitles 1 = .ok (.aload_n 0, 1) := by decide +kernel
theorem dX4_allTitles_2 : decode cX4_allTitles 2 = .ok (.getfield 20, 3) := by decide +kernel
theorem dX4_allTitles_5 : decode cX4_allTitles 5 = .ok (.getfield 51, 3) := by decide +kernel
theorem dX4_allTitles_8 : decode cX4_allTitles 8 = .ok (.ishl, 1) := by decide +kernel
theorem dX4_allTitles_9 : decode cX4_allTitles 9 = .ok (.iconst 1, 1) := by decide +kernel
theorem dX4_allTitles_10 : decode cX4_allTitles 10 = .ok (.isub, 1) := by decide +kernel
theorem dX4_allTitles_11 : decode cX4_allTitles 11 = .ok (.ireturn, 1) := by decide +kernel
theorem dX4_ouncesOf_0 : decode cX4_ouncesOf 0 = .ok (.iload_n 1, 1) := by decide +kernel
theorem dX4_ouncesOf_1 : decode cX4_ouncesOf 1 = .ok (.ifCond .lt 9, 3) := by decide +kernel
theorem dX4_ouncesOf_4 : decode cX4_ouncesOf 4 = .ok (.iload_n 1, 1) := by decide +kernel
theorem dX4_ouncesOf_5 : decode cX4_ouncesOf 5 = .ok (.bipush 26, 2) := by decide +kernel
theorem dX4_ouncesOf_7 : decode cX4_ouncesOf 7 = .ok (.if_icmp .lt 7, 3) := by decide +kernel
theorem dX4_ouncesOf_10 : decode cX4_ouncesOf 10 = .ok (.iconst (-1), 1) := by decide +kernel
theorem dX4_ouncesOf_11 : decode cX4_ouncesOf 11 = .ok (.goto 9, 3) := by decide +kernel
theorem dX4_ouncesOf_14 : decode cX4_ouncesOf 14 = .ok (.aload_n 0, 1) := by decide +kernel
theorem dX4_ouncesOf_15 : decode cX4_ouncesOf 15 = .ok (.getfield 32, 3) := by decide +kernel
theorem dX4_ouncesOf_18 : decode cX4_ouncesOf 18 = .ok (.iload_n 1, 1) := by decide +kernel
theorem dX4_ouncesOf_19 : decode cX4_ouncesOf 19 = .ok (.iaload, 1) := by decide +kernel
theorem dX4_ouncesOf_20 : decode cX4_ouncesOf 20 = .ok (.ireturn, 1) := by decide +kernel
theorem dX4_nameOunces_0 : decode cX4_nameOunces 0 = .ok (.iconst 0, 1) := by decide +kernel
theorem dX4_nameOunces_1 : decode cX4_nameOunces 1 = .ok (.istore_n 2, 1) := by decide +kernel
theorem dX4_nameOunces_2 : decode cX4_nameOunces 2 = .ok (.iload_n 1, 1) := by decide +kernel
theorem dX4_nameOunces_3 : decode cX4_nameOunces 3 = .ok (.invokestatic 65, 3) := by decide +kernel
theorem dX4_nameOunces_6 : decode cX4_nameOunces 6 = .ok (.istore_n 3, 1) := by decide +kernel
theorem dX4_nameOunces_7 : decode cX4_nameOunces 7 = .ok (.iconst 0, 1) := by decide +kernel
theorem dX4_nameOunces_8 : decode cX4_nameOunces 8 = .ok (.istore 4, 2) := by decide +kernel
theorem dX4_nameOunces_10 : decode cX4_nameOunces 10 = .ok (.iload 4, 2) := by decide +kernel
theorem dX4_nameOunces_12 : decode cX4_nameOunces 12 = .ok (.iload_n 3, 1) := by decide +kernel
theorem dX4_nameOunces_13 : decode cX4_nameOunces 13 = .ok (.if_icmp .ge 22, 3) := by decide +kernel
theorem dX4_nameOunces_16 : decode cX4_nameOunces 16 = .ok (.iload_n 2, 1) := by decide +kernel
theorem dX4_nameOunces_17 : decode cX4_nameOunces 17 = .ok (.aload_n 0, 1) := by decide +kernel
theorem dX4_nameOunces_18 : decode cX4_nameOunces 18 = .ok (.iload_n 1, 1) := by decide +kernel
theorem dX4_nameOunces_19 : decode cX4_nameOunces 19 = .ok (.iload 4, 2) := by decide +kernel
theorem dX4_nameOunces_21 : decode cX4_nameOunces 21 = .ok (.invokestatic 68, 3) := by decide +kernel
theorem dX4_nameOunces_24 : decode cX4_nameOunces 24 = .ok (.invokevirtual 72, 3) := by decide +kernel
theorem dX4_nameOunces_27 : decode cX4_nameOunces 27 = .ok (.iadd, 1) := by decide +kernel
theorem dX4_nameOunces_28 : decode cX4_nameOunces 28 = .ok (.istore_n 2, 1) := by decide +kernel
theorem dX4_nameOunces_29 : decode cX4_nameOunces 29 = .ok (.iinc 4 1, 3) := by decide +kernel
theorem dX4_nameOunces_32 : decode cX4_nameOunces 32 = .ok (.goto (-22), 3) := by decide +kernel
theorem dX4_nameOunces_35 : decode cX4_nameOunces 35 = .ok (.iload_n 2, 1) := by decide +kernel
theorem dX4_nameOunces_36 : decode cX4_nameOunces 36 = .ok (.ireturn, 1) := by decide +kernel
theorem dX4_weighTitles_0 : decode cX4_weighTitles 0 = .ok (.iconst 0, 1) := by decide +kernel
theorem dX4_weighTitles_1 : decode cX4_weighTitles 1 = .ok (.istore_n 1, 1) := by decide +kernel
theorem dX4_weighTitles_2 : decode cX4_weighTitles 2 = .ok (.iload_n 1, 1) := by decide +kernel
theorem dX4_weighTitles_3 : decode cX4_weighTitles 3 = .ok (.aload_n 0, 1) := by decide +kernel
theorem dX4_weighTitles_4 : decode cX4_weighTitles 4 = .ok (.getfield 20, 3) := by decide +kernel
theorem dX4_weighTitles_7 : decode cX4_weighTitles 7 = .ok (.getfield 51, 3) := by decide +kernel
theorem dX4_weighTitles_10 : decode cX4_weighTitles 10 = .ok (.if_icmp .ge 30, 3) := by decide +kernel
theorem dX4_weighTitles_13 : decode cX4_weighTitles 13 = .ok (.aload_n 0, 1) := by decide +kernel
theorem dX4_weighTitles_14 : decode cX4_weighTitles 14 = .ok (.getfield 20, 3) := by decide +kernel
theorem dX4_weighTitles_17 : decode cX4_weighTitles 17 = .ok (.iload_n 1, 1) := by decide +kernel
theorem dX4_weighTitles_18 : decode cX4_weighTitles 18 = .ok (.iconst 1, 1) := by decide +kernel
theorem dX4_weighTitles_19 : decode cX4_weighTitles 19 = .ok (.aload_n 0, 1) := by decide +kernel
theorem dX4_weighTitles_20 : decode cX4_weighTitles 20 = .ok (.aload_n 0, 1) := by decide +kernel
theorem dX4_weighTitles_21 : decode cX4_weighTitles 21 = .ok (.getfield 20, 3) := by decide +kernel
theorem dX4_weighTitles_24 : decode cX4_weighTitles 24 = .ok (.iload_n 1, 1) := by decide +kernel
theorem dX4_weighTitles_25 : decode cX4_weighTitles 25 = .ok (.invokevirtual 75, 3) := by decide +kernel
theorem dX4_weighTitles_28 : decode cX4_weighTitles 28 = .ok (.invokevirtual 78, 3) := by decide +kernel
theorem dX4_weighTitles_31 : decode cX4_weighTitles 31 = .ok (.invokevirtual 81, 3) := by decide +kernel
theorem dX4_weighTitles_34 : decode cX4_weighTitles 34 = .ok (.iinc 1 1, 3) := by decide +kernel
theorem dX4_weighTitles_37 : decode cX4_weighTitles 37 = .ok (.goto (-35), 3) := by decide +kernel
theorem dX4_weighTitles_40 : decode cX4_weighTitles 40 = .ok (.return_, 1) := by decide +kernel
theorem dX4_titleOunces_0 : decode cX4_titleOunces 0 = .ok (.aload_n 0, 1) := by decide +kernel
theorem dX4_titleOunces_1 : decode cX4_titleOunces 1 = .ok (.getfield 20, 3) := by decide +kernel
theorem dX4_titleOunces_4 : decode cX4_titleOunces 4 = .ok (.iload_n 1, 1) := by decide +kernel
theorem dX4_titleOunces_5 : decode cX4_titleOunces 5 = .ok (.iconst 1, 1) := by decide +kernel
theorem dX4_titleOunces_6 : decode cX4_titleOunces 6 = .ok (.invokevirtual 85, 3) := by decide +kernel
theorem dX4_titleOunces_9 : decode cX4_titleOunces 9 = .ok (.ireturn, 1) := by decide +kernel
theorem dX4_ouncesOfSet_0 : decode cX4_ouncesOfSet 0 = .ok (.iconst 0, 1) := by decide +kernel
theorem dX4_ouncesOfSet_1 : decode cX4_ouncesOfSet 1 = .ok (.istore_n 2, 1) := by decide +kernel
theorem dX4_ouncesOfSet_2 : decode cX4_ouncesOfSet 2 = .ok (.iconst 0, 1) := by decide +kernel
theorem dX4_ouncesOfSet_3 : decode cX4_ouncesOfSet 3 = .ok (.istore_n 3, 1) := by decide +kernel
theorem dX4_ouncesOfSet_4 : decode cX4_ouncesOfSet 4 = .ok (.iload_n 3, 1) := by decide +kernel
theorem dX4_ouncesOfSet_5 : decode cX4_ouncesOfSet 5 = .ok (.aload_n 0, 1) := by decide +kernel
theorem dX4_ouncesOfSet_6 : decode cX4_ouncesOfSet 6 = .ok (.getfield 20, 3) := by decide +kernel
theorem dX4_ouncesOfSet_9 : decode cX4_ouncesOfSet 9 = .ok (.getfield 51, 3) := by decide +kernel
theorem dX4_ouncesOfSet_12 : decode cX4_ouncesOfSet 12 = .ok (.if_icmp .ge 29, 3) := by decide +kernel
theorem dX4_ouncesOfSet_15 : decode cX4_ouncesOfSet 15 = .ok (.iload_n 1, 1) := by decide +kernel
theorem dX4_ouncesOfSet_16 : decode cX4_ouncesOfSet 16 = .ok (.iload_n 3, 1) := by decide +kernel
theorem dX4_ouncesOfSet_17 : decode cX4_ouncesOfSet 17 = .ok (.ishr, 1) := by decide +kernel
theorem dX4_ouncesOfSet_18 : decode cX4_ouncesOfSet 18 = .ok (.iconst 1, 1) := by decide +kernel
theorem dX4_ouncesOfSet_19 : decode cX4_ouncesOfSet 19 = .ok (.iand, 1) := by decide +kernel
theorem dX4_ouncesOfSet_20 : decode cX4_ouncesOfSet 20 = .ok (.ifCond .eq 15, 3) := by decide +kernel
theorem dX4_ouncesOfSet_23 : decode cX4_ouncesOfSet 23 = .ok (.iload_n 2, 1) := by decide +kernel
theorem dX4_ouncesOfSet_24 : decode cX4_ouncesOfSet 24 = .ok (.aload_n 0, 1) := by decide +kernel
theorem dX4_ouncesOfSet_25 : decode cX4_ouncesOfSet 25 = .ok (.getfield 20, 3) := by decide +kernel
theorem dX4_ouncesOfSet_28 : decode cX4_ouncesOfSet 28 = .ok (.iload_n 3, 1) := by decide +kernel
theorem dX4_ouncesOfSet_29 : decode cX4_ouncesOfSet 29 = .ok (.iconst 1, 1) := by decide +kernel
theorem dX4_ouncesOfSet_30 : decode cX4_ouncesOfSet 30 = .ok (.invokevirtual 85, 3) := by decide +kernel
theorem dX4_ouncesOfSet_33 : decode cX4_ouncesOfSet 33 = .ok (.iadd, 1) := by decide +kernel
theorem dX4_ouncesOfSet_34 : decode cX4_ouncesOfSet 34 = .ok (.istore_n 2, 1) := by decide +kernel
theorem dX4_ouncesOfSet_35 : decode cX4_ouncesOfSet 35 = .ok (.iinc 3 1, 3) := by decide +kernel
theorem dX4_ouncesOfSet_38 : decode cX4_ouncesOfSet 38 = .ok (.goto (-34), 3) := by decide +kernel
theorem dX4_ouncesOfSet_41 : decode cX4_ouncesOfSet 41 = .ok (.iload_n 2, 1) := by decide +kernel
theorem dX4_ouncesOfSet_42 : decode cX4_ouncesOfSet 42 = .ok (.ireturn, 1) := by decide +kernel
theorem dX4_honourOfSet_0 : decode cX4_honourOfSet 0 = .ok (.iconst 0, 1) := by decide +kernel
theorem dX4_honourOfSet_1 : decode cX4_honourOfSet 1 = .ok (.istore_n 2, 1) := by decide +kernel
theorem dX4_honourOfSet_2 : decode cX4_honourOfSet 2 = .ok (.iconst 0, 1) := by decide +kernel
theorem dX4_honourOfSet_3 : decode cX4_honourOfSet 3 = .ok (.istore_n 3, 1) := by decide +kernel
theorem dX4_honourOfSet_4 : decode cX4_honourOfSet 4 = .ok (.iload_n 3, 1) := by decide +kernel
theorem dX4_honourOfSet_5 : decode cX4_honourOfSet 5 = .ok (.aload_n 0, 1) := by decide +kernel
theorem dX4_honourOfSet_6 : decode cX4_honourOfSet 6 = .ok (.getfield 20, 3) := by decide +kernel
theorem dX4_honourOfSet_9 : decode cX4_honourOfSet 9 = .ok (.getfield 51, 3) := by decide +kernel
theorem dX4_honourOfSet_12 : decode cX4_honourOfSet 12 = .ok (.if_icmp .ge 29, 3) := by decide +kernel
theorem dX4_honourOfSet_15 : decode cX4_honourOfSet 15 = .ok (.iload_n 1, 1) := by decide +kernel
theorem dX4_honourOfSet_16 : decode cX4_honourOfSet 16 = .ok (.iload_n 3, 1) := by decide +kernel
theorem dX4_honourOfSet_17 : decode cX4_honourOfSet 17 = .ok (.ishr, 1) := by decide +kernel
theorem dX4_honourOfSet_18 : decode cX4_honourOfSet 18 = .ok (.iconst 1, 1) := by decide +kernel
theorem dX4_honourOfSet_19 : decode cX4_honourOfSet 19 = .ok (.iand, 1) := by decide +kernel
theorem dX4_honourOfSet_20 : decode cX4_honourOfSet 20 = .ok (.ifCond .eq 15, 3) := by decide +kernel
theorem dX4_honourOfSet_23 : decode cX4_honourOfSet 23 = .ok (.iload_n 2, 1) := by decide +kernel
theorem dX4_honourOfSet_24 : decode cX4_honourOfSet 24 = .ok (.aload_n 0, 1) := by decide +kernel
theorem dX4_honourOfSet_25 : decode cX4_honourOfSet 25 = .ok (.getfield 20, 3) := by decide +kernel
theorem dX4_honourOfSet_28 : decode cX4_honourOfSet 28 = .ok (.iload_n 3, 1) := by decide +kernel
theorem dX4_honourOfSet_29 : decode cX4_honourOfSet 29 = .ok (.iconst 0, 1) := by decide +kernel
theorem dX4_honourOfSet_30 : decode cX4_honourOfSet 30 = .ok (.invokevirtual 85, 3) := by decide +kernel
theorem dX4_honourOfSet_33 : decode cX4_honourOfSet 33 = .ok (.iadd, 1) := by decide +kernel
theorem dX4_honourOfSet_34 : decode cX4_honourOfSet 34 = .ok (.istore_n 2, 1) := by decide +kernel
theorem dX4_honourOfSet_35 : decode cX4_honourOfSet 35 = .ok (.iinc 3 1, 3) := by decide +kernel
theorem dX4_honourOfSet_38 : decode cX4_honourOfSet 38 = .ok (.goto (-34), 3) := by decide +kernel
theorem dX4_honourOfSet_41 : decode cX4_honourOfSet 41 = .ok (.iload_n 2, 1) := by decide +kernel
theorem dX4_honourOfSet_42 : decode cX4_honourOfSet 42 = .ok (.ireturn, 1) := by decide +kernel
theorem dX4_rankOf_0 : decode cX4_rankOf 0 = .ok (.aload_n 0, 1) := by decide +kernel
theorem dX4_rankOf_1 : decode cX4_rankOf 1 = .ok (.getfield 20, 3) := by decide +kernel
theorem dX4_rankOf_4 : decode cX4_rankOf 4 = .ok (.iload_n 1, 1) := by decide +kernel
theorem dX4_rankOf_5 : decode cX4_rankOf 5 = .ok (.invokevirtual 75, 3) := by decide +kernel
theorem dX4_rankOf_8 : decode cX4_rankOf 8 = .ok (.istore_n 3, 1) := by decide +kernel
theorem dX4_rankOf_9 : decode cX4_rankOf 9 = .ok (.iload_n 3, 1) := by decide +kernel
theorem dX4_rankOf_10 : decode cX4_rankOf 10 = .ok (.iload_n 2, 1) := by decide +kernel
theorem dX4_rankOf_11 : decode cX4_rankOf 11 = .ok (.invokestatic 68, 3) := by decide +kernel
theorem dX4_rankOf_14 : decode cX4_rankOf 14 = .ok (.istore 4, 2) := by decide +kernel
theorem dX4_rankOf_16 : decode cX4_rankOf 16 = .ok (.iconst 0, 1) := by decide +kernel
theorem dX4_rankOf_17 : decode cX4_rankOf 17 = .ok (.istore 5, 2) := by decide +kernel
theorem dX4_rankOf_19 : decode cX4_rankOf 19 = .ok (.iconst 0, 1) := by decide +kernel
theorem dX4_rankOf_20 : decode cX4_rankOf 20 = .ok (.istore 6, 2) := by decide +kernel
theorem dX4_rankOf_22 : decode cX4_rankOf 22 = .ok (.iload 6, 2) := by decide +kernel
theorem dX4_rankOf_24 : decode cX4_rankOf 24 = .ok (.iload_n 2, 1) := by decide +kernel
theorem dX4_rankOf_25 : decode cX4_rankOf 25 = .ok (.if_icmp .gt 30, 3) := by decide +kernel
theorem dX4_rankOf_28 : decode cX4_rankOf 28 = .ok (.iload 6, 2) := by decide +kernel
theorem dX4_rankOf_30 : decode cX4_rankOf 30 = .ok (.bipush 6, 2) := by decide +kernel
theorem dX4_rankOf_32 : decode cX4_rankOf 32 = .ok (.if_icmp .ge 23, 3) := by decide +kernel
theorem dX4_rankOf_35 : decode cX4_rankOf 35 = .ok (.iload_n 3, 1) := by decide +kernel
theorem dX4_rankOf_36 : decode cX4_rankOf 36 = .ok (.iload 6, 2) := by decide +kernel
theorem dX4_rankOf_38 : decode cX4_rankOf 38 = .ok (.invokestatic 68, 3) := by decide +kernel
theorem dX4_rankOf_41 : decode cX4_rankOf 41 = .ok (.iload 4, 2) := by decide +kernel
theorem dX4_rankOf_43 : decode cX4_rankOf 43 = .ok (.if_icmp .ne 6, 3) := by decide +kernel
theorem dX4_rankOf_46 : decode cX4_rankOf 46 = .ok (.iinc 5 1, 3) := by decide +kernel
theorem dX4_rankOf_49 : decode cX4_rankOf 49 = .ok (.iinc 6 1, 3) := by decide +kernel
theorem dX4_rankOf_52 : decode cX4_rankOf 52 = .ok (.goto (-30), 3) := by decide +kernel
theorem dX4_rankOf_55 : decode cX4_rankOf 55 = .ok (.iload 5, 2) := by decide +kernel
theorem dX4_rankOf_57 : decode cX4_rankOf 57 = .ok (.ireturn, 1) := by decide +kernel
theorem dX4_partsAt_0 : decode cX4_partsAt 0 = .ok (.bipush 100, 2) := by decide +kernel
theorem dX4_partsAt_2 : decode cX4_partsAt 2 = .ok (.istore_n 2, 1) := by decide +kernel
theorem dX4_partsAt_3 : decode cX4_partsAt 3 = .ok (.iconst 0, 1) := by decide +kernel
theorem dX4_partsAt_4 : decode cX4_partsAt 4 = .ok (.istore_n 3, 1) := by decide +kernel
theorem dX4_partsAt_5 : decode cX4_partsAt 5 = .ok (.iload_n 3, 1) := by decide +kernel
theorem dX4_partsAt_6 : decode cX4_partsAt 6 = .ok (.aload_n 0, 1) := by decide +kernel
theorem dX4_partsAt_7 : decode cX4_partsAt 7 = .ok (.getfield 23, 3) := by decide +kernel
theorem dX4_partsAt_10 : decode cX4_partsAt 10 = .ok (.getfield 51, 3) := by decide +kernel
theorem dX4_partsAt_13 : decode cX4_partsAt 13 = .ok (.if_icmp .ge 32, 3) := by decide +kernel
theorem dX4_partsAt_16 : decode cX4_partsAt 16 = .ok (.aload_n 0, 1) := by decide +kernel
theorem dX4_partsAt_17 : decode cX4_partsAt 17 = .ok (.getfield 23, 3) := by decide +kernel
theorem dX4_partsAt_20 : decode cX4_partsAt 20 = .ok (.iload_n 3, 1) := by decide +kernel
theorem dX4_partsAt_21 : decode cX4_partsAt 21 = .ok (.iconst 0, 1) := by decide +kernel
theorem dX4_partsAt_22 : decode cX4_partsAt 22 = .ok (.invokevirtual 85, 3) := by decide +kernel
theorem dX4_partsAt_25 : decode cX4_partsAt 25 = .ok (.iload_n 1, 1) := by decide +kernel
theorem dX4_partsAt_26 : decode cX4_partsAt 26 = .ok (.if_icmp .gt 13, 3) := by decide +kernel
theorem dX4_partsAt_29 : decode cX4_partsAt 29 = .ok (.aload_n 0, 1) := by decide +kernel
theorem dX4_partsAt_30 : decode cX4_partsAt 30 = .ok (.getfield 23, 3) := by decide +kernel
theorem dX4_partsAt_33 : decode cX4_partsAt 33 = .ok (.iload_n 3, 1) := by decide +kernel
theorem dX4_partsAt_34 : decode cX4_partsAt 34 = .ok (.iconst 1, 1) := by decide +kernel
theorem dX4_partsAt_35 : decode cX4_partsAt 35 = .ok (.invokevirtual 85, 3) := by decide +kernel
theorem dX4_partsAt_38 : decode cX4_partsAt 38 = .ok (.istore_n 2, 1) := by decide +kernel
theorem dX4_partsAt_39 : decode cX4_partsAt 39 = .ok (.iinc 3 1, 3) := by decide +kernel
theorem dX4_partsAt_42 : decode cX4_partsAt 42 = .ok (.goto (-37), 3) := by decide +kernel
theorem dX4_partsAt_45 : decode cX4_partsAt 45 = .ok (.iload_n 2, 1) := by decide +kernel
theorem dX4_partsAt_46 : decode cX4_partsAt 46 = .ok (.ireturn, 1) := by decide +kernel
theorem dX4_shareOf_0 : decode cX4_shareOf 0 = .ok (.lconst 0, 1) := by decide +kernel
theorem dX4_shareOf_1 : decode cX4_shareOf 1 = .ok (.lstore 4, 2) := by decide +kernel
theorem dX4_shareOf_3 : decode cX4_shareOf 3 = .ok (.iconst 0, 1) := by decide +kernel
theorem dX4_shareOf_4 : decode cX4_shareOf 4 = .ok (.istore 6, 2) := by decide +kernel
theorem dX4_shareOf_6 : decode cX4_shareOf 6 = .ok (.iload 6, 2) := by decide +kernel
theorem dX4_shareOf_8 : decode cX4_shareOf 8 = .ok (.aload_n 0, 1) := by decide +kernel
theorem dX4_shareOf_9 : decode cX4_shareOf 9 = .ok (.getfield 14, 3) := by decide +kernel
theorem dX4_shareOf_12 : decode cX4_shareOf 12 = .ok (.getfield 51, 3) := by decide +kernel
theorem dX4_shareOf_15 : decode cX4_shareOf 15 = .ok (.if_icmp .ge 22, 3) := by decide +kernel
theorem dX4_shareOf_18 : decode cX4_shareOf 18 = .ok (.lload 4, 2) := by decide +kernel
theorem dX4_shareOf_20 : decode cX4_shareOf 20 = .ok (.aload_n 0, 1) := by decide +kernel
theorem dX4_shareOf_21 : decode cX4_shareOf 21 = .ok (.iload 6, 2) := by decide +kernel
theorem dX4_shareOf_23 : decode cX4_shareOf 23 = .ok (.iload_n 2, 1) := by decide +kernel
theorem dX4_shareOf_24 : decode cX4_shareOf 24 = .ok (.iload_n 3, 1) := by decide +kernel
theorem dX4_shareOf_25 : decode cX4_shareOf 25 = .ok (.invokevirtual 88, 3) := by decide +kernel
theorem dX4_shareOf_28 : decode cX4_shareOf 28 = .ok (.ladd, 1) := by decide +kernel
theorem dX4_shareOf_29 : decode cX4_shareOf 29 = .ok (.lstore 4, 2) := by decide +kernel
theorem dX4_shareOf_31 : decode cX4_shareOf 31 = .ok (.iinc 6 1, 3) := by decide +kernel
theorem dX4_shareOf_34 : decode cX4_shareOf 34 = .ok (.goto (-28), 3) := by decide +kernel
theorem dX4_shareOf_37 : decode cX4_shareOf 37 = .ok (.lload 4, 2) := by decide +kernel
theorem dX4_shareOf_39 : decode cX4_shareOf 39 = .ok (.lconst 0, 1) := by decide +kernel
theorem dX4_shareOf_40 : decode cX4_shareOf 40 = .ok (.lcmp, 1) := by decide +kernel
theorem dX4_shareOf_41 : decode cX4_shareOf 41 = .ok (.ifCond .gt 7, 3) := by decide +kernel
theorem dX4_shareOf_44 : decode cX4_shareOf 44 = .ok (.iconst 0, 1) := by decide +kernel
theorem dX4_shareOf_45 : decode cX4_shareOf 45 = .ok (.goto 18, 3) := by decide +kernel
theorem dX4_shareOf_48 : decode cX4_shareOf 48 = .ok (.ldc2_w 92, 3) := by decide +kernel
theorem dX4_shareOf_51 : decode cX4_shareOf 51 = .ok (.aload_n 0, 1) := by decide +kernel
theorem dX4_shareOf_52 : decode cX4_shareOf 52 = .ok (.iload_n 1, 1) := by decide +kernel
theorem dX4_shareOf_53 : decode cX4_shareOf 53 = .ok (.iload_n 2, 1) := by decide +kernel
theorem dX4_shareOf_54 : decode cX4_shareOf 54 = .ok (.iload_n 3, 1) := by decide +kernel
theorem dX4_shareOf_55 : decode cX4_shareOf 55 = .ok (.invokevirtual 88, 3) := by decide +kernel
theorem dX4_shareOf_58 : decode cX4_shareOf 58 = .ok (.lmul, 1) := by decide +kernel
theorem dX4_shareOf_59 : decode cX4_shareOf 59 = .ok (.lload 4, 2) := by decide +kernel
theorem dX4_shareOf_61 : decode cX4_shareOf 61 = .ok (.ldiv, 1) := by decide +kernel
theorem dX4_shareOf_62 : decode cX4_shareOf 62 = .ok (.l2i, 1) := by decide +kernel
theorem dX4_shareOf_63 : decode cX4_shareOf 63 = .ok (.ireturn, 1) := by decide +kernel
theorem dX4_likely_0 : decode cX4_likely 0 = .ok (.aload_n 0, 1) := by decide +kernel
theorem dX4_likely_1 : decode cX4_likely 1 = .ok (.getfield 14, 3) := by decide +kernel
theorem dX4_likely_4 : decode cX4_likely 4 = .ok (.iload_n 1, 1) := by decide +kernel
theorem dX4_likely_5 : decode cX4_likely 5 = .ok (.iconst 2, 1) := by decide +kernel
theorem dX4_likely_6 : decode cX4_likely 6 = .ok (.invokevirtual 85, 3) := by decide +kernel
theorem dX4_likely_9 : decode cX4_likely 9 = .ok (.istore 4, 2) := by decide +kernel
theorem dX4_likely_11 : decode cX4_likely 11 = .ok (.ldc2_w 94, 3) := by decide +kernel
theorem dX4_likely_14 : decode cX4_likely 14 = .ok (.lstore 5, 2) := by decide +kernel
theorem dX4_likely_16 : decode cX4_likely 16 = .ok (.iconst 0, 1) := by decide +kernel
theorem dX4_likely_17 : decode cX4_likely 17 = .ok (.istore 7, 2) := by decide +kernel
theorem dX4_likely_19 : decode cX4_likely 19 = .ok (.iload 7, 2) := by decide +kernel
theorem dX4_likely_21 : decode cX4_likely 21 = .ok (.iload_n 2, 1) := by decide +kernel
theorem dX4_likely_22 : decode cX4_likely 22 = .ok (.if_icmp .ge 35, 3) := by decide +kernel
theorem dX4_likely_25 : decode cX4_likely 25 = .ok (.lload 5, 2) := by decide +kernel
theorem dX4_likely_27 : decode cX4_likely 27 = .ok (.iload 7, 2) := by decide +kernel
theorem dX4_likely_29 : decode cX4_likely 29 = .ok (.iload_n 3, 1) := by decide +kernel
theorem dX4_likely_30 : decode cX4_likely 30 = .ok (.if_icmp .ge 8, 3) := by decide +kernel
theorem dX4_likely_33 : decode cX4_likely 33 = .ok (.iload 4, 2) := by decide +kernel
theorem dX4_likely_35 : decode cX4_likely 35 = .ok (.goto 8, 3) := by decide +kernel
theorem dX4_likely_38 : decode cX4_likely 38 = .ok (.bipush 100, 2) := by decide +kernel
theorem dX4_likely_40 : decode cX4_likely 40 = .ok (.iload 4, 2) := by decide +kernel
theorem dX4_likely_42 : decode cX4_likely 42 = .ok (.isub, 1) := by decide +kernel
theorem dX4_likely_43 : decode cX4_likely 43 = .ok (.i2l, 1) := by decide +kernel
theorem dX4_likely_44 : decode cX4_likely 44 = .ok (.lmul, 1) := by decide +kernel
theorem dX4_likely_45 : decode cX4_likely 45 = .ok (.ldc2_w 96, 3) := by decide +kernel
theorem dX4_likely_48 : decode cX4_likely 48 = .ok (.ldiv, 1) := by decide +kernel
theorem dX4_likely_49 : decode cX4_likely 49 = .ok (.lstore 5, 2) := by decide +kernel
theorem dX4_likely_51 : decode cX4_likely 51 = .ok (.iinc 7 1, 3) := by decide +kernel
theorem dX4_likely_54 : decode cX4_likely 54 = .ok (.goto (-35), 3) := by decide +kernel
theorem dX4_likely_57 : decode cX4_likely 57 = .ok (.lload 5, 2) := by decide +kernel
theorem dX4_likely_59 : decode cX4_likely 59 = .ok (.lreturn, 1) := by decide +kernel
theorem dX4_pairLength_0 : decode cX4_pairLength 0 = .ok (.aload_n 0, 1) := by decide +kernel
theorem dX4_pairLength_1 : decode cX4_pairLength 1 = .ok (.getfield 20, 3) := by decide +kernel
theorem dX4_pairLength_4 : decode cX4_pairLength 4 = .ok (.iload_n 1, 1) := by decide +kernel
theorem dX4_pairLength_5 : decode cX4_pairLength 5 = .ok (.invokevirtual 75, 3) := by decide +kernel
theorem dX4_pairLength_8 : decode cX4_pairLength 8 = .ok (.invokestatic 65, 3) := by decide +kernel
theorem dX4_pairLength_11 : decode cX4_pairLength 11 = .ok (.aload_n 0, 1) := by decide +kernel
theorem dX4_pairLength_12 : decode cX4_pairLength 12 = .ok (.getfield 20, 3) := by decide +kernel
theorem dX4_pairLength_15 : decode cX4_pairLength 15 = .ok (.iload_n 2, 1) := by decide +kernel
theorem dX4_pairLength_16 : decode cX4_pairLength 16 = .ok (.invokevirtual 75, 3) := by decide +kernel
theorem dX4_pairLength_19 : decode cX4_pairLength 19 = .ok (.invokestatic 65, 3) := by decide +kernel
theorem dX4_pairLength_22 : decode cX4_pairLength 22 = .ok (.iadd, 1) := by decide +kernel
theorem dX4_pairLength_23 : decode cX4_pairLength 23 = .ok (.ireturn, 1) := by decide +kernel
theorem dX4_shared_0 : decode cX4_shared 0 = .ok (.aload_n 0, 1) := by decide +kernel
theorem dX4_shared_1 : decode cX4_shared 1 = .ok (.getfield 20, 3) := by decide +kernel
theorem dX4_shared_4 : decode cX4_shared 4 = .ok (.iload_n 1, 1) := by decide +kernel
theorem dX4_shared_5 : decode cX4_shared 5 = .ok (.invokevirtual 75, 3) := by decide +kernel
theorem dX4_shared_8 : decode cX4_shared 8 = .ok (.istore_n 3, 1) := by decide +kernel
theorem dX4_shared_9 : decode cX4_shared 9 = .ok (.aload_n 0, 1) := by decide +kernel
theorem dX4_shared_10 : decode cX4_shared 10 = .ok (.getfield 20, 3) := by decide +kernel
theorem dX4_shared_13 : decode cX4_shared 13 = .ok (.iload_n 2, 1) := by decide +kernel
theorem dX4_shared_14 : decode cX4_shared 14 = .ok (.invokevirtual 75, 3) := by decide +kernel
theorem dX4_shared_17 : decode cX4_shared 17 = .ok (.istore 4, 2) := by decide +kernel
theorem dX4_shared_19 : decode cX4_shared 19 = .ok (.iload_n 3, 1) := by decide +kernel
theorem dX4_shared_20 : decode cX4_shared 20 = .ok (.iload 4, 2) := by decide +kernel
theorem dX4_shared_22 : decode cX4_shared 22 = .ok (.invokestatic 98, 3) := by decide +kernel
theorem dX4_shared_25 : decode cX4_shared 25 = .ok (.ifCond .ne 12, 3) := by decide +kernel
theorem dX4_shared_28 : decode cX4_shared 28 = .ok (.iload 4, 2) := by decide +kernel
theorem dX4_shared_30 : decode cX4_shared 30 = .ok (.iload_n 3, 1) := by decide +kernel
theorem dX4_shared_31 : decode cX4_shared 31 = .ok (.invokestatic 98, 3) := by decide +kernel
theorem dX4_shared_34 : decode cX4_shared 34 = .ok (.ifCond .eq 16, 3) := by decide +kernel
theorem dX4_shared_37 : decode cX4_shared 37 = .ok (.iload_n 3, 1) := by decide +kernel
theorem dX4_shared_38 : decode cX4_shared 38 = .ok (.invokestatic 65, 3) := by decide +kernel
theorem dX4_shared_41 : decode cX4_shared 41 = .ok (.iload 4, 2) := by decide +kernel
theorem dX4_shared_43 : decode cX4_shared 43 = .ok (.invokestatic 65, 3) := by decide +kernel
theorem dX4_shared_46 : decode cX4_shared 46 = .ok (.invokestatic 102, 3) := by decide +kernel
theorem dX4_shared_49 : decode cX4_shared 49 = .ok (.ireturn, 1) := by decide +kernel
theorem dX4_shared_50 : decode cX4_shared 50 = .ok (.iload_n 3, 1) := by decide +kernel
theorem dX4_shared_51 : decode cX4_shared 51 = .ok (.iload 4, 2) := by decide +kernel
theorem dX4_shared_53 : decode cX4_shared 53 = .ok (.invokestatic 107, 3) := by decide +kernel
theorem dX4_shared_56 : decode cX4_shared 56 = .ok (.iload 4, 2) := by decide +kernel
theorem dX4_shared_58 : decode cX4_shared 58 = .ok (.iload_n 3, 1) := by decide +kernel
theorem dX4_shared_59 : decode cX4_shared 59 = .ok (.invokestatic 107, 3) := by decide +kernel
theorem dX4_shared_62 : decode cX4_shared 62 = .ok (.invokestatic 110, 3) := by decide +kernel
theorem dX4_shared_65 : decode cX4_shared 65 = .ok (.ireturn, 1) := by decide +kernel
theorem dX4_rowOunces_0 : decode cX4_rowOunces 0 = .ok (.aload_n 0, 1) := by decide +kernel
theorem dX4_rowOunces_1 : decode cX4_rowOunces 1 = .ok (.getfield 20, 3) := by decide +kernel
theorem dX4_rowOunces_4 : decode cX4_rowOunces 4 = .ok (.iload_n 1, 1) := by decide +kernel
theorem dX4_rowOunces_5 : decode cX4_rowOunces 5 = .ok (.invokevirtual 75, 3) := by decide +kernel
theorem dX4_rowOunces_8 : decode cX4_rowOunces 8 = .ok (.istore_n 3, 1) := by decide +kernel
theorem dX4_rowOunces_9 : decode cX4_rowOunces 9 = .ok (.aload_n 0, 1) := by decide +kernel
theorem dX4_rowOunces_10 : decode cX4_rowOunces 10 = .ok (.getfield 20, 3) := by decide +kernel
theorem dX4_rowOunces_13 : decode cX4_rowOunces 13 = .ok (.iload_n 2, 1) := by decide +kernel
theorem dX4_rowOunces_14 : decode cX4_rowOunces 14 = .ok (.invokevirtual 75, 3) := by decide +kernel
theorem dX4_rowOunces_17 : decode cX4_rowOunces 17 = .ok (.istore 4, 2) := by decide +kernel
theorem dX4_rowOunces_19 : decode cX4_rowOunces 19 = .ok (.aload_n 0, 1) := by decide +kernel
theorem dX4_rowOunces_20 : decode cX4_rowOunces 20 = .ok (.iload_n 3, 1) := by decide +kernel
theorem dX4_rowOunces_21 : decode cX4_rowOunces 21 = .ok (.invokevirtual 78, 3) := by decide +kernel
theorem dX4_rowOunces_24 : decode cX4_rowOunces 24 = .ok (.aload_n 0, 1) := by decide +kernel
theorem dX4_rowOunces_25 : decode cX4_rowOunces 25 = .ok (.iload 4, 2) := by decide +kernel
theorem dX4_rowOunces_27 : decode cX4_rowOunces 27 = .ok (.invokevirtual 78, 3) := by decide +kernel
theorem dX4_rowOunces_30 : decode cX4_rowOunces 30 = .ok (.iadd, 1) := by decide +kernel
theorem dX4_rowOunces_31 : decode cX4_rowOunces 31 = .ok (.istore 5, 2) := by decide +kernel
theorem dX4_rowOunces_33 : decode cX4_rowOunces 33 = .ok (.iload_n 3, 1) := by decide +kernel
theorem dX4_rowOunces_34 : decode cX4_rowOunces 34 = .ok (.iload 4, 2) := by decide +kernel
theorem dX4_rowOunces_36 : decode cX4_rowOunces 36 = .ok (.invokestatic 98, 3) := by decide +kernel
theorem dX4_rowOunces_39 : decode cX4_rowOunces 39 = .ok (.ifCond .eq 10, 3) := by decide +kernel
theorem dX4_rowOunces_42 : decode cX4_rowOunces 42 = .ok (.aload_n 0, 1) := by decide +kernel
theorem dX4_rowOunces_43 : decode cX4_rowOunces 43 = .ok (.iload 4, 2) := by decide +kernel
theorem dX4_rowOunces_45 : decode cX4_rowOunces 45 = .ok (.invokevirtual 78, 3) := by decide +kernel
theorem dX4_rowOunces_48 : decode cX4_rowOunces 48 = .ok (.ireturn, 1) := by decide +kernel
theorem dX4_rowOunces_49 : decode cX4_rowOunces 49 = .ok (.iload 4, 2) := by decide +kernel
theorem dX4_rowOunces_51 : decode cX4_rowOunces 51 = .ok (.iload_n 3, 1) := by decide +kernel
theorem dX4_rowOunces_52 : decode cX4_rowOunces 52 = .ok (.invokestatic 98, 3) := by decide +kernel
theorem dX4_rowOunces_55 : decode cX4_rowOunces 55 = .ok (.ifCond .eq 9, 3) := by decide +kernel
theorem dX4_rowOunces_58 : decode cX4_rowOunces 58 = .ok (.aload_n 0, 1) := by decide +kernel
theorem dX4_rowOunces_59 : decode cX4_rowOunces 59 = .ok (.iload_n 3, 1) := by decide +kernel
theorem dX4_rowOunces_60 : decode cX4_rowOunces 60 = .ok (.invokevirtual 78, 3) := by decide +kernel
theorem dX4_rowOunces_63 : decode cX4_rowOunces 63 = .ok (.ireturn, 1) := by decide +kernel
theorem dX4_rowOunces_64 : decode cX4_rowOunces 64 = .ok (.iload_n 3, 1) := by decide +kernel
theorem dX4_rowOunces_65 : decode cX4_rowOunces 65 = .ok (.iload 4, 2) := by decide +kernel
theorem dX4_rowOunces_67 : decode cX4_rowOunces 67 = .ok (.invokestatic 107, 3) := by decide +kernel
theorem dX4_rowOunces_70 : decode cX4_rowOunces 70 = .ok (.istore 6, 2) := by decide +kernel
theorem dX4_rowOunces_72 : decode cX4_rowOunces 72 = .ok (.iload 4, 2) := by decide +kernel
theorem dX4_rowOunces_74 : decode cX4_rowOunces 74 = .ok (.iload_n 3, 1) := by decide +kernel
theorem dX4_rowOunces_75 : decode cX4_rowOunces 75 = .ok (.invokestatic 107, 3) := by decide +kernel
theorem dX4_rowOunces_78 : decode cX4_rowOunces 78 = .ok (.istore 7, 2) := by decide +kernel
theorem dX4_rowOunces_80 : decode cX4_rowOunces 80 = .ok (.aload_n 0, 1) := by decide +kernel
theorem dX4_rowOunces_81 : decode cX4_rowOunces 81 = .ok (.iload 4, 2) := by decide +kernel
theorem dX4_rowOunces_83 : decode cX4_rowOunces 83 = .ok (.iload 6, 2) := by decide +kernel
theorem dX4_rowOunces_85 : decode cX4_rowOunces 85 = .ok (.invokestatic 113, 3) := by decide +kernel
theorem dX4_rowOunces_88 : decode cX4_rowOunces 88 = .ok (.invokevirtual 78, 3) := by decide +kernel
theorem dX4_rowOunces_91 : decode cX4_rowOunces 91 = .ok (.istore 8, 2) := by decide +kernel
theorem dX4_rowOunces_93 : decode cX4_rowOunces 93 = .ok (.aload_n 0, 1) := by decide +kernel
theorem dX4_rowOunces_94 : decode cX4_rowOunces 94 = .ok (.iload_n 3, 1) := by decide +kernel
theorem dX4_rowOunces_95 : decode cX4_rowOunces 95 = .ok (.iload 7, 2) := by decide +kernel
theorem dX4_rowOunces_97 : decode cX4_rowOunces 97 = .ok (.invokestatic 113, 3) := by decide +kernel
theorem dX4_rowOunces_100 : decode cX4_rowOunces 100 = .ok (.invokevirtual 78, 3) := by decide +kernel
theorem dX4_rowOunces_103 : decode cX4_rowOunces 103 = .ok (.istore 9, 2) := by decide +kernel
theorem dX4_rowOunces_105 : decode cX4_rowOunces 105 = .ok (.iload 6, 2) := by decide +kernel
theorem dX4_rowOunces_107 : decode cX4_rowOunces 107 = .ok (.iload 7, 2) := by decide +kernel
theorem dX4_rowOunces_109 : decode cX4_rowOunces 109 = .ok (.if_icmp .eq 21, 3) := by decide +kernel
theorem dX4_rowOunces_112 : decode cX4_rowOunces 112 = .ok (.iload 5, 2) := by decide +kernel
theorem dX4_rowOunces_114 : decode cX4_rowOunces 114 = .ok (.iload 6, 2) := by decide +kernel
theorem dX4_rowOunces_116 : decode cX4_rowOunces 116 = .ok (.iload 7, 2) := by decide +kernel
theorem dX4_rowOunces_118 : decode cX4_rowOunces 118 = .ok (.if_icmp .le 8, 3) := by decide +kernel
theorem dX4_rowOunces_121 : decode cX4_rowOunces 121 = .ok (.iload 8, 2) := by decide +kernel
theorem dX4_rowOunces_123 : decode cX4_rowOunces 123 = .ok (.goto 5, 3) := by decide +kernel
theorem dX4_rowOunces_126 : decode cX4_rowOunces 126 = .ok (.iload 9, 2) := by decide +kernel
theorem dX4_rowOunces_128 : decode cX4_rowOunces 128 = .ok (.isub, 1) := by decide +kernel
theorem dX4_rowOunces_129 : decode cX4_rowOunces 129 = .ok (.ireturn, 1) := by decide +kernel
theorem dX4_rowOunces_130 : decode cX4_rowOunces 130 = .ok (.iload 5, 2) := by decide +kernel
theorem dX4_rowOunces_132 : decode cX4_rowOunces 132 = .ok (.iload 8, 2) := by decide +kernel
theorem dX4_rowOunces_134 : decode cX4_rowOunces 134 = .ok (.iload 9, 2) := by decide +kernel
theorem dX4_rowOunces_136 : decode cX4_rowOunces 136 = .ok (.invokestatic 110, 3) := by decide +kernel
theorem dX4_rowOunces_139 : decode cX4_rowOunces 139 = .ok (.isub, 1) := by decide +kernel
theorem dX4_rowOunces_140 : decode cX4_rowOunces 140 = .ok (.ireturn, 1) := by decide +kernel
theorem dX4_isWithin_0 : decode cX4_isWithin 0 = .ok (.iload_n 0, 1) := by decide +kernel
theorem dX4_isWithin_1 : decode cX4_isWithin 1 = .ok (.invokestatic 65, 3) := by decide +kernel
theorem dX4_isWithin_4 : decode cX4_isWithin 4 = .ok (.istore_n 2, 1) := by decide +kernel
theorem dX4_isWithin_5 : decode cX4_isWithin 5 = .ok (.iload_n 1, 1) := by decide +kernel
theorem dX4_isWithin_6 : decode cX4_isWithin 6 = .ok (.invokestatic 65, 3) := by decide +kernel
theorem dX4_isWithin_9 : decode cX4_isWithin 9 = .ok (.iload_n 2, 1) := by decide +kernel
theorem dX4_isWithin_10 : decode cX4_isWithin 10 = .ok (.isub, 1) := by decide +kernel
theorem dX4_isWithin_11 : decode cX4_isWithin 11 = .ok (.istore_n 3, 1) := by decide +kernel
theorem dX4_isWithin_12 : decode cX4_isWithin 12 = .ok (.iconst 0, 1) := by decide +kernel
theorem dX4_isWithin_13 : decode cX4_isWithin 13 = .ok (.istore 4, 2) := by decide +kernel
theorem dX4_isWithin_15 : decode cX4_isWithin 15 = .ok (.iload 4, 2) := by decide +kernel
theorem dX4_isWithin_17 : decode cX4_isWithin 17 = .ok (.iload_n 3, 1) := by decide +kernel
theorem dX4_isWithin_18 : decode cX4_isWithin 18 = .ok (.if_icmp .gt 25, 3) := by decide +kernel
theorem dX4_isWithin_21 : decode cX4_isWithin 21 = .ok (.iload_n 1, 1) := by decide +kernel
theorem dX4_isWithin_22 : decode cX4_isWithin 22 = .ok (.iload 4, 2) := by decide +kernel
theorem dX4_isWithin_24 : decode cX4_isWithin 24 = .ok (.iconst 5, 1) := by decide +kernel
theorem dX4_isWithin_25 : decode cX4_isWithin 25 = .ok (.imul, 1) := by decide +kernel
theorem dX4_isWithin_26 : decode cX4_isWithin 26 = .ok (.ishr, 1) := by decide +kernel
theorem dX4_isWithin_27 : decode cX4_isWithin 27 = .ok (.iload_n 2, 1) := by decide +kernel
theorem dX4_isWithin_28 : decode cX4_isWithin 28 = .ok (.invokestatic 113, 3) := by decide +kernel
theorem dX4_isWithin_31 : decode cX4_isWithin 31 = .ok (.iload_n 0, 1) := by decide +kernel
theorem dX4_isWithin_32 : decode cX4_isWithin 32 = .ok (.if_icmp .ne 5, 3) := by decide +kernel
theorem dX4_isWithin_35 : decode cX4_isWithin 35 = .ok (.iconst 1, 1) := by decide +kernel
theorem dX4_isWithin_36 : decode cX4_isWithin 36 = .ok (.ireturn, 1) := by decide +kernel
theorem dX4_isWithin_37 : decode cX4_isWithin 37 = .ok (.iinc 4 1, 3) := by decide +kernel
theorem dX4_isWithin_40 : decode cX4_isWithin 40 = .ok (.goto (-25), 3) := by decide +kernel
theorem dX4_isWithin_43 : decode cX4_isWithin 43 = .ok (.iconst 0, 1) := by decide +kernel
theorem dX4_isWithin_44 : decode cX4_isWithin 44 = .ok (.ireturn, 1) := by decide +kernel
theorem dX4_joint_0 : decode cX4_joint 0 = .ok (.iload_n 0, 1) := by decide +kernel
theorem dX4_joint_1 : decode cX4_joint 1 = .ok (.invokestatic 65, 3) := by decide +kernel
theorem dX4_joint_4 : decode cX4_joint 4 = .ok (.istore_n 2, 1) := by decide +kernel
theorem dX4_joint_5 : decode cX4_joint 5 = .ok (.iload_n 2, 1) := by decide +kernel
theorem dX4_joint_6 : decode cX4_joint 6 = .ok (.iload_n 1, 1) := by decide +kernel
theorem dX4_joint_7 : decode cX4_joint 7 = .ok (.invokestatic 65, 3) := by decide +kernel
theorem dX4_joint_10 : decode cX4_joint 10 = .ok (.invokestatic 102, 3) := by decide +kernel
theorem dX4_joint_13 : decode cX4_joint 13 = .ok (.istore_n 3, 1) := by decide +kernel
theorem dX4_joint_14 : decode cX4_joint 14 = .ok (.iload_n 3, 1) := by decide +kernel
theorem dX4_joint_15 : decode cX4_joint 15 = .ok (.ifCond .le 26, 3) := by decide +kernel
theorem dX4_joint_18 : decode cX4_joint 18 = .ok (.iload_n 0, 1) := by decide +kernel
theorem dX4_joint_19 : decode cX4_joint 19 = .ok (.iload_n 2, 1) := by decide +kernel
theorem dX4_joint_20 : decode cX4_joint 20 = .ok (.iload_n 3, 1) := by decide +kernel
theorem dX4_joint_21 : decode cX4_joint 21 = .ok (.isub, 1) := by decide +kernel
theorem dX4_joint_22 : decode cX4_joint 22 = .ok (.iconst 5, 1) := by decide +kernel
theorem dX4_joint_23 : decode cX4_joint 23 = .ok (.imul, 1) := by decide +kernel
theorem dX4_joint_24 : decode cX4_joint 24 = .ok (.ishr, 1) := by decide +kernel
theorem dX4_joint_25 : decode cX4_joint 25 = .ok (.iload_n 1, 1) := by decide +kernel
theorem dX4_joint_26 : decode cX4_joint 26 = .ok (.iload_n 3, 1) := by decide +kernel
theorem dX4_joint_27 : decode cX4_joint 27 = .ok (.invokestatic 113, 3) := by decide +kernel
theorem dX4_joint_30 : decode cX4_joint 30 = .ok (.if_icmp .ne 5, 3) := by decide +kernel
theorem dX4_joint_33 : decode cX4_joint 33 = .ok (.iload_n 3, 1) := by decide +kernel
theorem dX4_joint_34 : decode cX4_joint 34 = .ok (.ireturn, 1) := by decide +kernel
theorem dX4_joint_35 : decode cX4_joint 35 = .ok (.iinc 3 (-1), 3) := by decide +kernel
theorem dX4_joint_38 : decode cX4_joint 38 = .ok (.goto (-24), 3) := by decide +kernel
theorem dX4_joint_41 : decode cX4_joint 41 = .ok (.iconst 0, 1) := by decide +kernel
theorem dX4_joint_42 : decode cX4_joint 42 = .ok (.ireturn, 1) := by decide +kernel
theorem dX4_start_0 : decode cX4_start 0 = .ok (.iload_n 0, 1) := by decide +kernel
theorem dX4_start_1 : decode cX4_start 1 = .ok (.iconst 1, 1) := by decide +kernel
theorem dX4_start_2 : decode cX4_start 2 = .ok (.iload_n 1, 1) := by decide +kernel
theorem dX4_start_3 : decode cX4_start 3 = .ok (.iconst 5, 1) := by decide +kernel
theorem dX4_start_4 : decode cX4_start 4 = .ok (.imul, 1) := by decide +kernel
theorem dX4_start_5 : decode cX4_start 5 = .ok (.ishl, 1) := by decide +kernel
theorem dX4_start_6 : decode cX4_start 6 = .ok (.iconst 1, 1) := by decide +kernel
theorem dX4_start_7 : decode cX4_start 7 = .ok (.isub, 1) := by decide +kernel
theorem dX4_start_8 : decode cX4_start 8 = .ok (.iand, 1) := by decide +kernel
theorem dX4_start_9 : decode cX4_start 9 = .ok (.ireturn, 1) := by decide +kernel
theorem dX5_readLand_0 : decode cX5_readLand 0 = .ok (.aload_n 0, 1) := by decide +kernel
theorem dX5_readLand_1 : decode cX5_readLand 1 = .ok (.aload_n 1, 1) := by decide +kernel
theorem dX5_readLand_2 : decode cX5_readLand 2 = .ok (.putfield 15, 3) := by decide +kernel
theorem dX5_readLand_5 : decode cX5_readLand 5 = .ok (.aload_n 0, 1) := by decide +kernel
theorem dX5_readLand_6 : decode cX5_readLand 6 = .ok (.getfield 15, 3) := by decide +kernel
theorem dX5_readLand_9 : decode cX5_readLand 9 = .ok (.invokevirtual 23, 3) := by decide +kernel
theorem dX5_readLand_12 : decode cX5_readLand 12 = .ok (.iconst 0, 1) := by decide +kernel
theorem dX5_readLand_13 : decode cX5_readLand 13 = .ok (.istore_n 2, 1) := by decide +kernel
theorem dX5_readLand_14 : decode cX5_readLand 14 = .ok (.iload_n 2, 1) := by decide +kernel
theorem dX5_readLand_15 : decode cX5_readLand 15 = .ok (.sipush 1600, 3) := by decide +kernel
theorem dX5_readLand_18 : decode cX5_readLand 18 = .ok (.if_icmp .gt 192, 3) := by decide +kernel
theorem dX5_readLand_21 : decode cX5_readLand 21 = .ok (.aload_n 0, 1) := by decide +kernel
theorem dX5_readLand_22 : decode cX5_readLand 22 = .ok (.getfield 9, 3) := by decide +kernel
theorem dX5_readLand_25 : decode cX5_readLand 25 = .ok (.invokevirtual 28, 3) := by decide +kernel
theorem dX5_readLand_28 : decode cX5_readLand 28 = .ok (.sipush 302, 3) := by decide +kernel
theorem dX5_readLand_31 : decode cX5_readLand 31 = .ok (.if_icmp .eq 179, 3) := by decide +kernel
theorem dX5_readLand_34 : decode cX5_readLand 34 = .ok (.aload_n 0, 1) := by decide +kernel
theorem dX5_readLand_35 : decode cX5_readLand 35 = .ok (.getfield 9, 3) := by decide +kernel
theorem dX5_readLand_38 : decode cX5_readLand 38 = .ok (.invokevirtual 28, 3) := by decide +kernel
theorem dX5_readLand_41 : decode cX5_readLand 41 = .ok (.tableswitch 139 400 412 #[67, 75, 139, 139, 139, 83, 139, 91, 99, 107, 115, 123, 131], 67) := by decide +kernel
theorem dX5_readLand_108 : decode cX5_readLand 108 = .ok (.aload_n 0, 1) := by decide +kernel
theorem dX5_readLand_109 : decode cX5_readLand 109 = .ok (.invokevirtual 34, 3) := by decide +kernel
theorem dX5_readLand_112 : decode cX5_readLand 112 = .ok (.istore_n 3, 1) := by decide +kernel
theorem dX5_readLand_113 : decode cX5_readLand 113 = .ok (.goto 76, 3) := by decide +kernel
theorem dX5_readLand_116 : decode cX5_readLand 116 = .ok (.aload_n 0, 1) := by decide +kernel
theorem dX5_readLand_117 : decode cX5_readLand 117 = .ok (.invokevirtual 38, 3) := by decide +kernel
theorem dX5_readLand_120 : decode cX5_readLand 120 = .ok (.istore_n 3, 1) := by decide +kernel
theorem dX5_readLand_121 : decode cX5_readLand 121 = .ok (.goto 68, 3) := by decide +kernel
theorem dX5_readLand_124 : decode cX5_readLand 124 = .ok (.aload_n 0, 1) := by decide +kernel
theorem dX5_readLand_125 : decode cX5_readLand 125 = .ok (.invokevirtual 41, 3) := by decide +kernel
theorem dX5_readLand_128 : decode cX5_readLand 128 = .ok (.istore_n 3, 1) := by decide +kernel
theorem dX5_readLand_129 : decode cX5_readLand 129 = .ok (.goto 60, 3) := by decide +kernel
theorem dX5_readLand_132 : decode cX5_readLand 132 = .ok (.aload_n 0, 1) := by decide +kernel
theorem dX5_readLand_133 : decode cX5_readLand 133 = .ok (.invokevirtual 44, 3) := by decide +kernel
theorem dX5_readLand_136 : decode cX5_readLand 136 = .ok (.istore_n 3, 1) := by decide +kernel
theorem dX5_readLand_137 : decode cX5_readLand 137 = .ok (.goto 52, 3) := by decide +kernel
theorem dX5_readLand_140 : decode cX5_readLand 140 = .ok (.aload_n 0, 1) := by decide +kernel
theorem dX5_readLand_141 : decode cX5_readLand 141 = .ok (.invokevirtual 47, 3) := by decide +kernel
theorem dX5_readLand_144 : decode cX5_readLand 144 = .ok (.istore_n 3, 1) := by decide +kernel
theorem dX5_readLand_145 : decode cX5_readLand 145 = .ok (.goto 44, 3) := by decide +kernel
theorem dX5_readLand_148 : decode cX5_readLand 148 = .ok (.aload_n 0, 1) := by decide +kernel
theorem dX5_readLand_149 : decode cX5_readLand 149 = .ok (.invokevirtual 50, 3) := by decide +kernel
theorem dX5_readLand_152 : decode cX5_readLand 152 = .ok (.istore_n 3, 1) := by decide +kernel
theorem dX5_readLand_153 : decode cX5_readLand 153 = .ok (.goto 36, 3) := by decide +kernel
theorem dX5_readLand_156 : decode cX5_readLand 156 = .ok (.aload_n 0, 1) := by decide +kernel
theorem dX5_readLand_157 : decode cX5_readLand 157 = .ok (.invokevirtual 53, 3) := by decide +kernel
theorem dX5_readLand_160 : decode cX5_readLand 160 = .ok (.istore_n 3, 1) := by decide +kernel
theorem dX5_readLand_161 : decode cX5_readLand 161 = .ok (.goto 28, 3) := by decide +kernel
theorem dX5_readLand_164 : decode cX5_readLand 164 = .ok (.aload_n 0, 1) := by decide +kernel
theorem dX5_readLand_165 : decode cX5_readLand 165 = .ok (.invokevirtual 56, 3) := by decide +kernel
theorem dX5_readLand_168 : decode cX5_readLand 168 = .ok (.istore_n 3, 1) := by decide +kernel
theorem dX5_readLand_169 : decode cX5_readLand 169 = .ok (.goto 20, 3) := by decide +kernel
theorem dX5_readLand_172 : decode cX5_readLand 172 = .ok (.aload_n 0, 1) := by decide +kernel
theorem dX5_readLand_173 : decode cX5_readLand 173 = .ok (.invokevirtual 59, 3) := by decide +kernel
theorem dX5_readLand_176 : decode cX5_readLand 176 = .ok (.istore_n 3, 1) := by decide +kernel
theorem dX5_readLand_177 : decode cX5_readLand 177 = .ok (.goto 12, 3) := by decide +kernel
theorem dX5_readLand_180 : decode cX5_readLand 180 = .ok (.aload_n 0, 1) := by decide +kernel
theorem dX5_readLand_181 : decode cX5_readLand 181 = .ok (.getfield 9, 3) := by decide +kernel
theorem dX5_readLand_184 : decode cX5_readLand 184 = .ok (.iconst 1, 1) := by decide +kernel
theorem dX5_readLand_185 : decode cX5_readLand 185 = .ok (.invokevirtual 62, 3) := by decide +kernel
theorem dX5_readLand_188 : decode cX5_readLand 188 = .ok (.istore_n 3, 1) := by decide +kernel
theorem dX5_readLand_189 : decode cX5_readLand 189 = .ok (.iload_n 3, 1) := by decide +kernel
theorem dX5_readLand_190 : decode cX5_readLand 190 = .ok (.ifCond .eq 12, 3) := by decide +kernel
theorem dX5_readLand_193 : decode cX5_readLand 193 = .ok (.aload_n 0, 1) := by decide +kernel
theorem dX5_readLand_194 : decode cX5_readLand 194 = .ok (.bipush 59, 2) := by decide +kernel
theorem dX5_readLand_196 : decode cX5_readLand 196 = .ok (.invokevirtual 66, 3) := by decide +kernel
theorem dX5_readLand_199 : decode cX5_readLand 199 = .ok (.ifCond .ne 5, 3) := by decide +kernel
theorem dX5_readLand_202 : decode cX5_readLand 202 = .ok (.iconst (-1), 1) := by decide +kernel
theorem dX5_readLand_203 : decode cX5_readLand 203 = .ok (.ireturn, 1) := by decide +kernel
theorem dX5_readLand_204 : decode cX5_readLand 204 = .ok (.iinc 2 1, 3) := by decide +kernel
theorem dX5_readLand_207 : decode cX5_readLand 207 = .ok (.goto (-193), 3) := by decide +kernel
theorem dX5_readLand_210 : decode cX5_readLand 210 = .ok (.aload_n 0, 1) := by decide +kernel
theorem dX5_readLand_211 : decode cX5_readLand 211 = .ok (.getfield 15, 3) := by decide +kernel
theorem dX5_readLand_214 : decode cX5_readLand 214 = .ok (.invokevirtual 69, 3) := by decide +kernel
theorem dX5_readLand_217 : decode cX5_readLand 217 = .ok (.iload_n 2, 1) := by decide +kernel
theorem dX5_readLand_218 : decode cX5_readLand 218 = .ok (.ireturn, 1) := by decide +kernel
theorem dX5_letterOunces_0 : decode cX5_letterOunces 0 = .ok (.aload_n 0, 1) := by decide +kernel
theorem dX5_letterOunces_1 : decode cX5_letterOunces 1 = .ok (.getfield 9, 3) := by decide +kernel
theorem dX5_letterOunces_4 : decode cX5_letterOunces 4 = .ok (.invokevirtual 72, 3) := by decide +kernel
theorem dX5_letterOunces_7 : decode cX5_letterOunces 7 = .ok (.aload_n 0, 1) := by decide +kernel
theorem dX5_letterOunces_8 : decode cX5_letterOunces 8 = .ok (.invokevirtual 75, 3) := by decide +kernel
theorem dX5_letterOunces_11 : decode cX5_letterOunces 11 = .ok (.ifCond .ne 5, 3) := by decide +kernel
theorem dX5_letterOunces_14 : decode cX5_letterOunces 14 = .ok (.iconst 0, 1) := by decide +kernel
theorem dX5_letterOunces_15 : decode cX5_letterOunces 15 = .ok (.ireturn, 1) := by decide +kernel
theorem dX5_letterOunces_16 : decode cX5_letterOunces 16 = .ok (.aload_n 0, 1) := by decide +kernel
theorem dX5_letterOunces_17 : decode cX5_letterOunces 17 = .ok (.getfield 19, 3) := by decide +kernel
theorem dX5_letterOunces_20 : decode cX5_letterOunces 20 = .ok (.istore_n 1, 1) := by decide +kernel
theorem dX5_letterOunces_21 : decode cX5_letterOunces 21 = .ok (.aload_n 0, 1) := by decide +kernel
theorem dX5_letterOunces_22 : decode cX5_letterOunces 22 = .ok (.iconst 1, 1) := by decide +kernel
theorem dX5_letterOunces_23 : decode cX5_letterOunces 23 = .ok (.bipush 99, 2) := by decide +kernel
theorem dX5_letterOunces_25 : decode cX5_letterOunces 25 = .ok (.invokevirtual 78, 3) := by decide +kernel
theorem dX5_letterOunces_28 : decode cX5_letterOunces 28 = .ok (.ifCond .ne 5, 3) := by decide +kernel
theorem dX5_letterOunces_31 : decode cX5_letterOunces 31 = .ok (.iconst 0, 1) := by decide +kernel
theorem dX5_letterOunces_32 : decode cX5_letterOunces 32 = .ok (.ireturn, 1) := by decide +kernel
theorem dX5_letterOunces_33 : decode cX5_letterOunces 33 = .ok (.aload_n 0, 1) := by decide +kernel
theorem dX5_letterOunces_34 : decode cX5_letterOunces 34 = .ok (.getfield 15, 3) := by decide +kernel
theorem dX5_letterOunces_37 : decode cX5_letterOunces 37 = .ok (.getfield 82, 3) := by decide +kernel
theorem dX5_letterOunces_40 : decode cX5_letterOunces 40 = .ok (.iload_n 1, 1) := by decide +kernel
theorem dX5_letterOunces_41 : decode cX5_letterOunces 41 = .ok (.aload_n 0, 1) := by decide +kernel
theorem dX5_letterOunces_42 : decode cX5_letterOunces 42 = .ok (.getfield 19, 3) := by decide +kernel
theorem dX5_letterOunces_45 : decode cX5_letterOunces 45 = .ok (.iastore, 1) := by decide +kernel
theorem dX5_letterOunces_46 : decode cX5_letterOunces 46 = .ok (.iconst 1, 1) := by decide +kernel
theorem dX5_letterOunces_47 : decode cX5_letterOunces 47 = .ok (.ireturn, 1) := by decide +kernel
theorem dX5_heapLetters_0 : decode cX5_heapLetters 0 = .ok (.aload_n 0, 1) := by decide +kernel
theorem dX5_heapLetters_1 : decode cX5_heapLetters 1 = .ok (.getfield 9, 3) := by decide +kernel
theorem dX5_heapLetters_4 : decode cX5_heapLetters 4 = .ok (.invokevirtual 72, 3) := by decide +kernel
theorem dX5_heapLetters_7 : decode cX5_heapLetters 7 = .ok (.aload_n 0, 1) := by decide +kernel
theorem dX5_heapLetters_8 : decode cX5_heapLetters 8 = .ok (.invokevirtual 75, 3) := by decide +kernel
theorem dX5_heapLetters_11 : decode cX5_heapLetters 11 = .ok (.ifCond .ne 5, 3) := by decide +kernel
theorem dX5_heapLetters_14 : decode cX5_heapLetters 14 = .ok (.iconst 0, 1) := by decide +kernel
theorem dX5_heapLetters_15 : decode cX5_heapLetters 15 = .ok (.ireturn, 1) := by decide +kernel
theorem dX5_heapLetters_16 : decode cX5_heapLetters 16 = .ok (.aload_n 0, 1) := by decide +kernel
theorem dX5_heapLetters_17 : decode cX5_heapLetters 17 = .ok (.getfield 19, 3) := by decide +kernel
theorem dX5_heapLetters_20 : decode cX5_heapLetters 20 = .ok (.istore_n 1, 1) := by decide +kernel
theorem dX5_heapLetters_21 : decode cX5_heapLetters 21 = .ok (.aload_n 0, 1) := by decide +kernel
theorem dX5_heapLetters_22 : decode cX5_heapLetters 22 = .ok (.iconst 0, 1) := by decide +kernel
theorem dX5_heapLetters_23 : decode cX5_heapLetters 23 = .ok (.bipush 99, 2) := by decide +kernel
theorem dX5_heapLetters_25 : decode cX5_heapLetters 25 = .ok (.invokevirtual 78, 3) := by decide +kernel
theorem dX5_heapLetters_28 : decode cX5_heapLetters 28 = .ok (.ifCond .ne 5, 3) := by decide +kernel
theorem dX5_heapLetters_31 : decode cX5_heapLetters 31 = .ok (.iconst 0, 1) := by decide +kernel
theorem dX5_heapLetters_32 : decode cX5_heapLetters 32 = .ok (.ireturn, 1) := by decide +kernel
theorem dX5_heapLetters_33 : decode cX5_heapLetters 33 = .ok (.aload_n 0, 1) := by decide +kernel
theorem dX5_heapLetters_34 : decode cX5_heapLetters 34 = .ok (.getfield 15, 3) := by decide +kernel
theorem dX5_heapLetters_37 : decode cX5_heapLetters 37 = .ok (.getfield 86, 3) := by decide +kernel
theorem dX5_heapLetters_40 : decode cX5_heapLetters 40 = .ok (.iload_n 1, 1) := by decide +kernel
theorem dX5_heapLetters_41 : decode cX5_heapLetters 41 = .ok (.aload_n 0, 1) := by decide +kernel
theorem dX5_heapLetters_42 : decode cX5_heapLetters 42 = .ok (.getfield 19, 3) := by decide +kernel
theorem dX5_heapLetters_45 : decode cX5_heapLetters 45 = .ok (.iastore, 1) := by decide +kernel
theorem dX5_heapLetters_46 : decode cX5_heapLetters 46 = .ok (.iconst 1, 1) := by decide +kernel
theorem dX5_heapLetters_47 : decode cX5_heapLetters 47 = .ok (.ireturn, 1) := by decide +kernel
theorem dX5_yearNow_0 : decode cX5_yearNow 0 = .ok (.aload_n 0, 1) := by decide +kernel
theorem dX5_yearNow_1 : decode cX5_yearNow 1 = .ok (.getfield 9, 3) := by decide +kernel
theorem dX5_yearNow_4 : decode cX5_yearNow 4 = .ok (.invokevirtual 72, 3) := by decide +kernel
theorem dX5_yearNow_7 : decode cX5_yearNow 7 = .ok (.aload_n 0, 1) := by decide +kernel
theorem dX5_yearNow_8 : decode cX5_yearNow 8 = .ok (.iconst 0, 1) := by decide +kernel
theorem dX5_yearNow_9 : decode cX5_yearNow 9 = .ok (.bipush 99, 2) := by decide +kernel
theorem dX5_yearNow_11 : decode cX5_yearNow 11 = .ok (.invokevirtual 78, 3) := by decide +kernel
theorem dX5_yearNow_14 : decode cX5_yearNow 14 = .ok (.ifCond .ne 5, 3) := by decide +kernel
theorem dX5_yearNow_17 : decode cX5_yearNow 17 = .ok (.iconst 0, 1) := by decide +kernel
theorem dX5_yearNow_18 : decode cX5_yearNow 18 = .ok (.ireturn, 1) := by decide +kernel
theorem dX5_yearNow_19 : decode cX5_yearNow 19 = .ok (.aload_n 0, 1) := by decide +kernel
theorem dX5_yearNow_20 : decode cX5_yearNow 20 = .ok (.getfield 15, 3) := by decide +kernel
theorem dX5_yearNow_23 : decode cX5_yearNow 23 = .ok (.aload_n 0, 1) := by decide +kernel
theorem dX5_yearNow_24 : decode cX5_yearNow 24 = .ok (.getfield 19, 3) := by decide +kernel
theorem dX5_yearNow_27 : decode cX5_yearNow 27 = .ok (.putfield 89, 3) := by decide +kernel
theorem dX5_yearNow_30 : decode cX5_yearNow 30 = .ok (.iconst 1, 1) := by decide +kernel
theorem dX5_yearNow_31 : decode cX5_yearNow 31 = .ok (.ireturn, 1) := by decide +kernel
theorem dX5_newPerson_0 : decode cX5_newPerson 0 = .ok (.aload_n 0, 1) := by decide +kernel
theorem dX5_newPerson_1 : decode cX5_newPerson 1 = .ok (.aload_n 0, 1) := by decide +kernel
theorem dX5_newPerson_2 : decode cX5_newPerson 2 = .ok (.getfield 15, 3) := by decide +kernel
theorem dX5_newPerson_5 : decode cX5_newPerson 5 = .ok (.getfield 92, 3) := by decide +kernel
theorem dX5_newPerson_8 : decode cX5_newPerson 8 = .ok (.invokevirtual 96, 3) := by decide +kernel
theorem dX5_newPerson_11 : decode cX5_newPerson 11 = .ok (.ifCond .eq 127, 3) := by decide +kernel
theorem dX5_newPerson_14 : decode cX5_newPerson 14 = .ok (.aload_n 0, 1) := by decide +kernel
theorem dX5_newPerson_15 : decode cX5_newPerson 15 = .ok (.aload_n 0, 1) := by decide +kernel
theorem dX5_newPerson_16 : decode cX5_newPerson 16 = .ok (.getfield 15, 3) := by decide +kernel
theorem dX5_newPerson_19 : decode cX5_newPerson 19 = .ok (.getfield 92, 3) := by decide +kernel
theorem dX5_newPerson_22 : decode cX5_newPerson 22 = .ok (.invokevirtual 100, 3) := by decide +kernel
theorem dX5_newPerson_25 : decode cX5_newPerson 25 = .ok (.ifCond .eq 113, 3) := by decide +kernel
theorem dX5_newPerson_28 : decode cX5_newPerson 28 = .ok (.aload_n 0, 1) := by decide +kernel
theorem dX5_newPerson_29 : decode cX5_newPerson 29 = .ok (.sipush 402, 3) := by decide +kernel
theorem dX5_newPerson_32 : decode cX5_newPerson 32 = .ok (.invokevirtual 66, 3) := by decide +kernel
theorem dX5_newPerson_35 : decode cX5_newPerson 35 = .ok (.ifCond .eq 103, 3) := by decide +kernel
theorem dX5_newPerson_38 : decode cX5_newPerson 38 = .ok (.aload_n 0, 1) := by decide +kernel
theorem dX5_newPerson_39 : decode cX5_newPerson 39 = .ok (.iconst 0, 1) := by decide +kernel
theorem dX5_newPerson_40 : decode cX5_newPerson 40 = .ok (.bipush 99, 2) := by decide +kernel
theorem dX5_newPerson_42 : decode cX5_newPerson 42 = .ok (.invokevirtual 78, 3) := by decide +kernel
theorem dX5_newPerson_45 : decode cX5_newPerson 45 = .ok (.ifCond .eq 93, 3) := by decide +kernel
theorem dX5_newPerson_48 : decode cX5_newPerson 48 = .ok (.aload_n 0, 1) := by decide +kernel
theorem dX5_newPerson_49 : decode cX5_newPerson 49 = .ok (.aload_n 0, 1) := by decide +kernel
theorem dX5_newPerson_50 : decode cX5_newPerson 50 = .ok (.getfield 15, 3) := by decide +kernel
theorem dX5_newPerson_53 : decode cX5_newPerson 53 = .ok (.getfield 92, 3) := by decide +kernel
theorem dX5_newPerson_56 : decode cX5_newPerson 56 = .ok (.iconst 0, 1) := by decide +kernel
theorem dX5_newPerson_57 : decode cX5_newPerson 57 = .ok (.invokevirtual 103, 3) := by decide +kernel
theorem dX5_newPerson_60 : decode cX5_newPerson 60 = .ok (.ifCond .eq 78, 3) := by decide +kernel
theorem dX5_newPerson_63 : decode cX5_newPerson 63 = .ok (.aload_n 0, 1) := by decide +kernel
theorem dX5_newPerson_64 : decode cX5_newPerson 64 = .ok (.sipush 403, 3) := by decide +kernel
theorem dX5_newPerson_67 : decode cX5_newPerson 67 = .ok (.invokevirtual 66, 3) := by decide +kernel
theorem dX5_newPerson_70 : decode cX5_newPerson 70 = .ok (.ifCond .eq 68, 3) := by decide +kernel
theorem dX5_newPerson_73 : decode cX5_newPerson 73 = .ok (.aload_n 0, 1) := by decide +kernel
theorem dX5_newPerson_74 : decode cX5_newPerson 74 = .ok (.iconst 0, 1) := by decide +kernel
theorem dX5_newPerson_75 : decode cX5_newPerson 75 = .ok (.sipush 999, 3) := by decide +kernel
theorem dX5_newPerson_78 : decode cX5_newPerson 78 = .ok (.invokevirtual 78, 3) := by decide +kernel
theorem dX5_newPerson_81 : decode cX5_newPerson 81 = .ok (.ifCond .eq 57, 3) := by decide +kernel
theorem dX5_newPerson_84 : decode cX5_newPerson 84 = .ok (.aload_n 0, 1) := by decide +kernel
theorem dX5_newPerson_85 : decode cX5_newPerson 85 = .ok (.aload_n 0, 1) := by decide +kernel
theorem dX5_newPerson_86 : decode cX5_newPerson 86 = .ok (.getfield 15, 3) := by decide +kernel
theorem dX5_newPerson_89 : decode cX5_newPerson 89 = .ok (.getfield 92, 3) := by decide +kernel
theorem dX5_newPerson_92 : decode cX5_newPerson 92 = .ok (.iconst 1, 1) := by decide +kernel
theorem dX5_newPerson_93 : decode cX5_newPerson 93 = .ok (.invokevirtual 103, 3) := by decide +kernel
theorem dX5_newPerson_96 : decode cX5_newPerson 96 = .ok (.ifCond .eq 42, 3) := by decide +kernel
theorem dX5_newPerson_99 : decode cX5_newPerson 99 = .ok (.aload_n 0, 1) := by decide +kernel
theorem dX5_newPerson_100 : decode cX5_newPerson 100 = .ok (.sipush 404, 3) := by decide +kernel
theorem dX5_newPerson_103 : decode cX5_newPerson 103 = .ok (.invokevirtual 66, 3) := by decide +kernel
theorem dX5_newPerson_106 : decode cX5_newPerson 106 = .ok (.ifCond .eq 32, 3) := by decide +kernel
theorem dX5_newPerson_109 : decode cX5_newPerson 109 = .ok (.aload_n 0, 1) := by decide +kernel
theorem dX5_newPerson_110 : decode cX5_newPerson 110 = .ok (.iconst 0, 1) := by decide +kernel
theorem dX5_newPerson_111 : decode cX5_newPerson 111 = .ok (.bipush 100, 2) := by decide +kernel
theorem dX5_newPerson_113 : decode cX5_newPerson 113 = .ok (.invokevirtual 78, 3) := by decide +kernel
theorem dX5_newPerson_116 : decode cX5_newPerson 116 = .ok (.ifCond .eq 22, 3) := by decide +kernel
theorem dX5_newPerson_119 : decode cX5_newPerson 119 = .ok (.aload_n 0, 1) := by decide +kernel
theorem dX5_newPerson_120 : decode cX5_newPerson 120 = .ok (.aload_n 0, 1) := by decide +kernel
theorem dX5_newPerson_121 : decode cX5_newPerson 121 = .ok (.getfield 15, 3) := by decide +kernel
theorem dX5_newPerson_124 : decode cX5_newPerson 124 = .ok (.getfield 92, 3) := by decide +kernel
theorem dX5_newPerson_127 : decode cX5_newPerson 127 = .ok (.iconst 2, 1) := by decide +kernel
theorem dX5_newPerson_128 : decode cX5_newPerson 128 = .ok (.invokevirtual 103, 3) := by decide +kernel
theorem dX5_newPerson_131 : decode cX5_newPerson 131 = .ok (.ifCond .eq 7, 3) := by decide +kernel
theorem dX5_newPerson_134 : decode cX5_newPerson 134 = .ok (.iconst 1, 1) := by decide +kernel
theorem dX5_newPerson_135 : decode cX5_newPerson 135 = .ok (.goto 4, 3) := by decide +kernel
theorem dX5_newPerson_138 : decode cX5_newPerson 138 = .ok (.iconst 0, 1) := by decide +kernel
theorem dX5_newPerson_139 : decode cX5_newPerson 139 = .ok (.ireturn, 1) := by decide +kernel
theorem dX5_newTitle_0 : decode cX5_newTitle 0 = .ok (.aload_n 0, 1) := by decide +kernel
theorem dX5_newTitle_1 : decode cX5_newTitle 1 = .ok (.aload_n 0, 1) := by decide +kernel
theorem dX5_newTitle_2 : decode cX5_newTitle 2 = .ok (.getfield 15, 3) := by decide +kernel
theorem dX5_newTitle_5 : decode cX5_newTitle 5 = .ok (.getfield 107, 3) := by decide +kernel
theorem dX5_newTitle_8 : decode cX5_newTitle 8 = .ok (.invokevirtual 96, 3) := by decide +kernel
theorem dX5_newTitle_11 : decode cX5_newTitle 11 = .ok (.ifCond .eq 57, 3) := by decide +kernel
theorem dX5_newTitle_14 : decode cX5_newTitle 14 = .ok (.aload_n 0, 1) := by decide +kernel
theorem dX5_newTitle_15 : decode cX5_newTitle 15 = .ok (.aload_n 0, 1) := by decide +kernel
theorem dX5_newTitle_16 : decode cX5_newTitle 16 = .ok (.getfield 15, 3) := by decide +kernel
theorem dX5_newTitle_19 : decode cX5_newTitle 19 = .ok (.getfield 107, 3) := by decide +kernel
theorem dX5_newTitle_22 : decode cX5_newTitle 22 = .ok (.invokevirtual 100, 3) := by decide +kernel
theorem dX5_newTitle_25 : decode cX5_newTitle 25 = .ok (.ifCond .eq 43, 3) := by decide +kernel
theorem dX5_newTitle_28 : decode cX5_newTitle 28 = .ok (.aload_n 0, 1) := by decide +kernel
theorem dX5_newTitle_29 : decode cX5_newTitle 29 = .ok (.sipush 406, 3) := by decide +kernel
theorem dX5_newTitle_32 : decode cX5_newTitle 32 = .ok (.invokevirtual 66, 3) := by decide +kernel
theorem dX5_newTitle_35 : decode cX5_newTitle 35 = .ok (.ifCond .eq 33, 3) := by decide +kernel
theorem dX5_newTitle_38 : decode cX5_newTitle 38 = .ok (.aload_n 0, 1) := by decide +kernel
theorem dX5_newTitle_39 : decode cX5_newTitle 39 = .ok (.iconst 0, 1) := by decide +kernel
theorem dX5_newTitle_40 : decode cX5_newTitle 40 = .ok (.sipush 999, 3) := by decide +kernel
theorem dX5_newTitle_43 : decode cX5_newTitle 43 = .ok (.invokevirtual 78, 3) := by decide +kernel
theorem dX5_newTitle_46 : decode cX5_newTitle 46 = .ok (.ifCond .eq 22, 3) := by decide +kernel
theorem dX5_newTitle_49 : decode cX5_newTitle 49 = .ok (.aload_n 0, 1) := by decide +kernel
theorem dX5_newTitle_50 : decode cX5_newTitle 50 = .ok (.aload_n 0, 1) := by decide +kernel
theorem dX5_newTitle_51 : decode cX5_newTitle 51 = .ok (.getfield 15, 3) := by decide +kernel
theorem dX5_newTitle_54 : decode cX5_newTitle 54 = .ok (.getfield 107, 3) := by decide +kernel
theorem dX5_newTitle_57 : decode cX5_newTitle 57 = .ok (.iconst 0, 1) := by decide +kernel
theorem dX5_newTitle_58 : decode cX5_newTitle 58 = .ok (.invokevirtual 103, 3) := by decide +kernel
theorem dX5_newTitle_61 : decode cX5_newTitle 61 = .ok (.ifCond .eq 7, 3) := by decide +kernel
theorem dX5_newTitle_64 : decode cX5_newTitle 64 = .ok (.iconst 1, 1) := by decide +kernel
theorem dX5_newTitle_65 : decode cX5_newTitle 65 = .ok (.goto 4, 3) := by decide +kernel
theorem dX5_newTitle_68 : decode cX5_newTitle 68 = .ok (.iconst 0, 1) := by decide +kernel
theorem dX5_newTitle_69 : decode cX5_newTitle 69 = .ok (.ireturn, 1) := by decide +kernel
theorem dX5_newBridge_0 : decode cX5_newBridge 0 = .ok (.aload_n 0, 1) := by decide +kernel
theorem dX5_newBridge_1 : decode cX5_newBridge 1 = .ok (.aload_n 0, 1) := by decide +kernel
theorem dX5_newBridge_2 : decode cX5_newBridge 2 = .ok (.getfield 15, 3) := by decide +kernel
theorem dX5_newBridge_5 : decode cX5_newBridge 5 = .ok (.getfield 110, 3) := by decide +kernel
theorem dX5_newBridge_8 : decode cX5_newBridge 8 = .ok (.invokevirtual 96, 3) := by decide +kernel
theorem dX5_newBridge_11 : decode cX5_newBridge 11 = .ok (.ifCond .eq 47, 3) := by decide +kernel
theorem dX5_newBridge_14 : decode cX5_newBridge 14 = .ok (.aload_n 0, 1) := by decide +kernel
theorem dX5_newBridge_15 : decode cX5_newBridge 15 = .ok (.aload_n 0, 1) := by decide +kernel
theorem dX5_newBridge_16 : decode cX5_newBridge 16 = .ok (.getfield 15, 3) := by decide +kernel
theorem dX5_newBridge_19 : decode cX5_newBridge 19 = .ok (.getfield 110, 3) := by decide +kernel
theorem dX5_newBridge_22 : decode cX5_newBridge 22 = .ok (.invokevirtual 100, 3) := by decide +kernel
theorem dX5_newBridge_25 : decode cX5_newBridge 25 = .ok (.ifCond .eq 33, 3) := by decide +kernel
theorem dX5_newBridge_28 : decode cX5_newBridge 28 = .ok (.aload_n 0, 1) := by decide +kernel
theorem dX5_newBridge_29 : decode cX5_newBridge 29 = .ok (.iconst 0, 1) := by decide +kernel
theorem dX5_newBridge_30 : decode cX5_newBridge 30 = .ok (.sipush 9999, 3) := by decide +kernel
theorem dX5_newBridge_33 : decode cX5_newBridge 33 = .ok (.invokevirtual 78, 3) := by decide +kernel
theorem dX5_newBridge_36 : decode cX5_newBridge 36 = .ok (.ifCond .eq 22, 3) := by decide +kernel
theorem dX5_newBridge_39 : decode cX5_newBridge 39 = .ok (.aload_n 0, 1) := by decide +kernel
theorem dX5_newBridge_40 : decode cX5_newBridge 40 = .ok (.aload_n 0, 1) := by decide +kernel
theorem dX5_newBridge_41 : decode cX5_newBridge 41 = .ok (.getfield 15, 3) := by decide +kernel
theorem dX5_newBridge_44 : decode cX5_newBridge 44 = .ok (.getfield 110, 3) := by decide +kernel
theorem dX5_newBridge_47 : decode cX5_newBridge 47 = .ok (.iconst 0, 1) := by decide +kernel
theorem dX5_newBridge_48 : decode cX5_newBridge 48 = .ok (.invokevirtual 103, 3) := by decide +kernel
theorem dX5_newBridge_51 : decode cX5_newBridge 51 = .ok (.ifCond .eq 7, 3) := by decide +kernel
theorem dX5_newBridge_54 : decode cX5_newBridge 54 = .ok (.iconst 1, 1) := by decide +kernel
theorem dX5_newBridge_55 : decode cX5_newBridge 55 = .ok (.goto 4, 3) := by decide +kernel
theorem dX5_newBridge_58 : decode cX5_newBridge 58 = .ok (.iconst 0, 1) := by decide +kernel
theorem dX5_newBridge_59 : decode cX5_newBridge 59 = .ok (.ireturn, 1) := by decide +kernel
theorem dX5_titleHad_0 : decode cX5_titleHad 0 = .ok (.aload_n 0, 1) := by decide +kernel
theorem dX5_titleHad_1 : decode cX5_titleHad 1 = .ok (.getfield 9, 3) := by decide +kernel
theorem dX5_titleHad_4 : decode cX5_titleHad 4 = .ok (.invokevirtual 72, 3) := by decide +kernel
theorem dX5_titleHad_7 : decode cX5_titleHad 7 = .ok (.aload_n 0, 1) := by decide +kernel
theorem dX5_titleHad_8 : decode cX5_titleHad 8 = .ok (.aload_n 0, 1) := by decide +kernel
theorem dX5_titleHad_9 : decode cX5_titleHad 9 = .ok (.getfield 15, 3) := by decide +kernel
theorem dX5_titleHad_12 : decode cX5_titleHad 12 = .ok (.getfield 92, 3) := by decide +kernel
theorem dX5_titleHad_15 : decode cX5_titleHad 15 = .ok (.invokevirtual 113, 3) := by decide +kernel
theorem dX5_titleHad_18 : decode cX5_titleHad 18 = .ok (.ifCond .ne 5, 3) := by decide +kernel
theorem dX5_titleHad_21 : decode cX5_titleHad 21 = .ok (.iconst 0, 1) := by decide +kernel
theorem dX5_titleHad_22 : decode cX5_titleHad 22 = .ok (.ireturn, 1) := by decide +kernel
theorem dX5_titleHad_23 : decode cX5_titleHad 23 = .ok (.aload_n 0, 1) := by decide +kernel
theorem dX5_titleHad_24 : decode cX5_titleHad 24 = .ok (.getfield 19, 3) := by decide +kernel
theorem dX5_titleHad_27 : decode cX5_titleHad 27 = .ok (.istore_n 1, 1) := by decide +kernel
theorem dX5_titleHad_28 : decode cX5_titleHad 28 = .ok (.aload_n 0, 1) := by decide +kernel
theorem dX5_titleHad_29 : decode cX5_titleHad 29 = .ok (.getfield 9, 3) := by decide +kernel
theorem dX5_titleHad_32 : decode cX5_titleHad 32 = .ok (.invokevirtual 28, 3) := by decide +kernel
theorem dX5_titleHad_35 : decode cX5_titleHad 35 = .ok (.sipush 300, 3) := by decide +kernel
theorem dX5_titleHad_38 : decode cX5_titleHad 38 = .ok (.if_icmp .eq 12, 3) := by decide +kernel
theorem dX5_titleHad_41 : decode cX5_titleHad 41 = .ok (.aload_n 0, 1) := by decide +kernel
theorem dX5_titleHad_42 : decode cX5_titleHad 42 = .ok (.getfield 9, 3) := by decide +kernel
theorem dX5_titleHad_45 : decode cX5_titleHad 45 = .ok (.iconst 1, 1) := by decide +kernel
theorem dX5_titleHad_46 : decode cX5_titleHad 46 = .ok (.invokevirtual 62, 3) := by decide +kernel
theorem dX5_titleHad_49 : decode cX5_titleHad 49 = .ok (.ireturn, 1) := by decide +kernel
theorem dX5_titleHad_50 : decode cX5_titleHad 50 = .ok (.aload_n 0, 1) := by decide +kernel
theorem dX5_titleHad_51 : decode cX5_titleHad 51 = .ok (.getfield 15, 3) := by decide +kernel
theorem dX5_titleHad_54 : decode cX5_titleHad 54 = .ok (.getfield 107, 3) := by decide +kernel
theorem dX5_titleHad_57 : decode cX5_titleHad 57 = .ok (.aload_n 0, 1) := by decide +kernel
theorem dX5_titleHad_58 : decode cX5_titleHad 58 = .ok (.getfield 9, 3) := by decide +kernel
theorem dX5_titleHad_61 : decode cX5_titleHad 61 = .ok (.getfield 116, 3) := by decide +kernel
theorem dX5_titleHad_64 : decode cX5_titleHad 64 = .ok (.invokevirtual 119, 3) := by decide +kernel
theorem dX5_titleHad_67 : decode cX5_titleHad 67 = .ok (.istore_n 2, 1) := by decide +kernel
theorem dX5_titleHad_68 : decode cX5_titleHad 68 = .ok (.iload_n 2, 1) := by decide +kernel
theorem dX5_titleHad_69 : decode cX5_titleHad 69 = .ok (.iconst (-1), 1) := by decide +kernel
theorem dX5_titleHad_70 : decode cX5_titleHad 70 = .ok (.if_icmp .eq 19, 3) := by decide +kernel
theorem dX5_titleHad_73 : decode cX5_titleHad 73 = .ok (.aload_n 0, 1) := by decide +kernel
theorem dX5_titleHad_74 : decode cX5_titleHad 74 = .ok (.getfield 15, 3) := by decide +kernel
theorem dX5_titleHad_77 : decode cX5_titleHad 77 = .ok (.getfield 125, 3) := by decide +kernel
theorem dX5_titleHad_80 : decode cX5_titleHad 80 = .ok (.iload_n 1, 1) := by decide +kernel
theorem dX5_titleHad_81 : decode cX5_titleHad 81 = .ok (.iaload, 1) := by decide +kernel
theorem dX5_titleHad_82 : decode cX5_titleHad 82 = .ok (.iload_n 2, 1) := by decide +kernel
theorem dX5_titleHad_83 : decode cX5_titleHad 83 = .ok (.ishr, 1) := by decide +kernel
theorem dX5_titleHad_84 : decode cX5_titleHad 84 = .ok (.iconst 1, 1) := by decide +kernel
theorem dX5_titleHad_85 : decode cX5_titleHad 85 = .ok (.iand, 1) := by decide +kernel
theorem dX5_titleHad_86 : decode cX5_titleHad 86 = .ok (.ifCond .eq 12, 3) := by decide +kernel
theorem dX5_titleHad_89 : decode cX5_titleHad 89 = .ok (.aload_n 0, 1) := by decide +kernel
theorem dX5_titleHad_90 : decode cX5_titleHad 90 = .ok (.getfield 9, 3) := by decide +kernel
theorem dX5_titleHad_93 : decode cX5_titleHad 93 = .ok (.iconst 3, 1) := by decide +kernel
theorem dX5_titleHad_94 : decode cX5_titleHad 94 = .ok (.invokevirtual 62, 3) := by decide +kernel
theorem dX5_titleHad_97 : decode cX5_titleHad 97 = .ok (.ireturn, 1) := by decide +kernel
theorem dX5_titleHad_98 : decode cX5_titleHad 98 = .ok (.aload_n 0, 1) := by decide +kernel
theorem dX5_titleHad_99 : decode cX5_titleHad 99 = .ok (.getfield 9, 3) := by decide +kernel
theorem dX5_titleHad_102 : decode cX5_titleHad 102 = .ok (.invokevirtual 72, 3) := by decide +kernel
theorem dX5_titleHad_105 : decode cX5_titleHad 105 = .ok (.aload_n 0, 1) := by decide +kernel
theorem dX5_titleHad_106 : decode cX5_titleHad 106 = .ok (.getfield 15, 3) := by decide +kernel
theorem dX5_titleHad_109 : decode cX5_titleHad 109 = .ok (.getfield 125, 3) := by decide +kernel
theorem dX5_titleHad_112 : decode cX5_titleHad 112 = .ok (.iload_n 1, 1) := by decide +kernel
theorem dX5_titleHad_113 : decode cX5_titleHad 113 = .ok (.dup2, 1) := by decide +kernel
theorem dX5_titleHad_114 : decode cX5_titleHad 114 = .ok (.iaload, 1) := by decide +kernel
theorem dX5_titleHad_115 : decode cX5_titleHad 115 = .ok (.iconst 1, 1) := by decide +kernel
theorem dX5_titleHad_116 : decode cX5_titleHad 116 = .ok (.iload_n 2, 1) := by decide +kernel
theorem dX5_titleHad_117 : decode cX5_titleHad 117 = .ok (.ishl, 1) := by decide +kernel
theorem dX5_titleHad_118 : decode cX5_titleHad 118 = .ok (.ior, 1) := by decide +kernel
theorem dX5_titleHad_119 : decode cX5_titleHad 119 = .ok (.iastore, 1) := by decide +kernel
theorem dX5_titleHad_120 : decode cX5_titleHad 120 = .ok (.iconst 1, 1) := by decide +kernel
theorem dX5_titleHad_121 : decode cX5_titleHad 121 = .ok (.ireturn, 1) := by decide +kernel
theorem dX5_newAge_0 : decode cX5_newAge 0 = .ok (.aload_n 0, 1) := by decide +kernel
theorem dX5_newAge_1 : decode cX5_newAge 1 = .ok (.aload_n 0, 1) := by decide +kernel
theorem dX5_newAge_2 : decode cX5_newAge 2 = .ok (.getfield 15, 3) := by decide +kernel
theorem dX5_newAge_5 : decode cX5_newAge 5 = .ok (.getfield 128, 3) := by decide +kernel
theorem dX5_newAge_8 : decode cX5_newAge 8 = .ok (.invokevirtual 96, 3) := by decide +kernel
theorem dX5_newAge_11 : decode cX5_newAge 11 = .ok (.ifCond .ne 5, 3) := by decide +kernel
theorem dX5_newAge_14 : decode cX5_newAge 14 = .ok (.iconst 0, 1) := by decide +kernel
theorem dX5_newAge_15 : decode cX5_newAge 15 = .ok (.ireturn, 1) := by decide +kernel
theorem dX5_newAge_16 : decode cX5_newAge 16 = .ok (.iconst 0, 1) := by decide +kernel
theorem dX5_newAge_17 : decode cX5_newAge 17 = .ok (.istore_n 1, 1) := by decide +kernel
theorem dX5_newAge_18 : decode cX5_newAge 18 = .ok (.aload_n 0, 1) := by decide +kernel
theorem dX5_newAge_19 : decode cX5_newAge 19 = .ok (.getfield 15, 3) := by decide +kernel
theorem dX5_newAge_22 : decode cX5_newAge 22 = .ok (.getfield 128, 3) := by decide +kernel
theorem dX5_newAge_25 : decode cX5_newAge 25 = .ok (.getfield 131, 3) := by decide +kernel
theorem dX5_newAge_28 : decode cX5_newAge 28 = .ok (.ifCond .le 29, 3) := by decide +kernel
theorem dX5_newAge_31 : decode cX5_newAge 31 = .ok (.aload_n 0, 1) := by decide +kernel
theorem dX5_newAge_32 : decode cX5_newAge 32 = .ok (.getfield 15, 3) := by decide +kernel
theorem dX5_newAge_35 : decode cX5_newAge 35 = .ok (.getfield 128, 3) := by decide +kernel
theorem dX5_newAge_38 : decode cX5_newAge 38 = .ok (.aload_n 0, 1) := by decide +kernel
theorem dX5_newAge_39 : decode cX5_newAge 39 = .ok (.getfield 15, 3) := by decide +kernel
theorem dX5_newAge_42 : decode cX5_newAge 42 = .ok (.getfield 128, 3) := by decide +kernel
theorem dX5_newAge_45 : decode cX5_newAge 45 = .ok (.getfield 131, 3) := by decide +kernel
theorem dX5_newAge_48 : decode cX5_newAge 48 = .ok (.iconst 1, 1) := by decide +kernel
theorem dX5_newAge_49 : decode cX5_newAge 49 = .ok (.isub, 1) := by decide +kernel
theorem dX5_newAge_50 : decode cX5_newAge 50 = .ok (.iconst 0, 1) := by decide +kernel
theorem dX5_newAge_51 : decode cX5_newAge 51 = .ok (.invokevirtual 134, 3) := by decide +kernel
theorem dX5_newAge_54 : decode cX5_newAge 54 = .ok (.iconst 1, 1) := by decide +kernel
theorem dX5_newAge_55 : decode cX5_newAge 55 = .ok (.iadd, 1) := by decide +kernel
theorem dX5_newAge_56 : decode cX5_newAge 56 = .ok (.istore_n 1, 1) := by decide +kernel
theorem dX5_newAge_57 : decode cX5_newAge 57 = .ok (.aload_n 0, 1) := by decide +kernel
theorem dX5_newAge_58 : decode cX5_newAge 58 = .ok (.iload_n 1, 1) := by decide +kernel
theorem dX5_newAge_59 : decode cX5_newAge 59 = .ok (.bipush 99, 2) := by decide +kernel
theorem dX5_newAge_61 : decode cX5_newAge 61 = .ok (.invokevirtual 78, 3) := by decide +kernel
theorem dX5_newAge_64 : decode cX5_newAge 64 = .ok (.ifCond .ne 5, 3) := by decide +kernel
theorem dX5_newAge_67 : decode cX5_newAge 67 = .ok (.iconst 0, 1) := by decide +kernel
theorem dX5_newAge_68 : decode cX5_newAge 68 = .ok (.ireturn, 1) := by decide +kernel
theorem dX5_newAge_69 : decode cX5_newAge 69 = .ok (.aload_n 0, 1) := by decide +kernel
theorem dX5_newAge_70 : decode cX5_newAge 70 = .ok (.getfield 15, 3) := by decide +kernel
theorem dX5_newAge_73 : decode cX5_newAge 73 = .ok (.getfield 128, 3) := by decide +kernel
theorem dX5_newAge_76 : decode cX5_newAge 76 = .ok (.iconst 0, 1) := by decide +kernel
theorem dX5_newAge_77 : decode cX5_newAge 77 = .ok (.invokevirtual 138, 3) := by decide +kernel
theorem dX5_newAge_80 : decode cX5_newAge 80 = .ok (.pop, 1) := by decide +kernel
theorem dX5_newAge_81 : decode cX5_newAge 81 = .ok (.aload_n 0, 1) := by decide +kernel
theorem dX5_newAge_82 : decode cX5_newAge 82 = .ok (.aload_n 0, 1) := by decide +kernel
theorem dX5_newAge_83 : decode cX5_newAge 83 = .ok (.getfield 15, 3) := by decide +kernel
theorem dX5_newAge_86 : decode cX5_newAge 86 = .ok (.getfield 128, 3) := by decide +kernel
theorem dX5_newAge_89 : decode cX5_newAge 89 = .ok (.iconst 0, 1) := by decide +kernel
theorem dX5_newAge_90 : decode cX5_newAge 90 = .ok (.invokevirtual 103, 3) := by decide +kernel
theorem dX5_newAge_93 : decode cX5_newAge 93 = .ok (.pop, 1) := by decide +kernel
theorem dX5_newAge_94 : decode cX5_newAge 94 = .ok (.aload_n 0, 1) := by decide +kernel
theorem dX5_newAge_95 : decode cX5_newAge 95 = .ok (.iconst 0, 1) := by decide +kernel
theorem dX5_newAge_96 : decode cX5_newAge 96 = .ok (.sipush 200, 3) := by decide +kernel
theorem dX5_newAge_99 : decode cX5_newAge 99 = .ok (.invokevirtual 78, 3) := by decide +kernel
theorem dX5_newAge_102 : decode cX5_newAge 102 = .ok (.ifCond .eq 22, 3) := by decide +kernel
theorem dX5_newAge_105 : decode cX5_newAge 105 = .ok (.aload_n 0, 1) := by decide +kernel
theorem dX5_newAge_106 : decode cX5_newAge 106 = .ok (.aload_n 0, 1) := by decide +kernel
theorem dX5_newAge_107 : decode cX5_newAge 107 = .ok (.getfield 15, 3) := by decide +kernel
theorem dX5_newAge_110 : decode cX5_newAge 110 = .ok (.getfield 128, 3) := by decide +kernel
theorem dX5_newAge_113 : decode cX5_newAge 113 = .ok (.iconst 1, 1) := by decide +kernel
theorem dX5_newAge_114 : decode cX5_newAge 114 = .ok (.invokevirtual 103, 3) := by decide +kernel
theorem dX5_newAge_117 : decode cX5_newAge 117 = .ok (.ifCond .eq 7, 3) := by decide +kernel
theorem dX5_newAge_120 : decode cX5_newAge 120 = .ok (.iconst 1, 1) := by decide +kernel
theorem dX5_newAge_121 : decode cX5_newAge 121 = .ok (.goto 4, 3) := by decide +kernel
theorem dX5_newAge_124 : decode cX5_newAge 124 = .ok (.iconst 0, 1) := by decide +kernel
theorem dX5_newAge_125 : decode cX5_newAge 125 = .ok (.ireturn, 1) := by decide +kernel
theorem dX5_newLaw_0 : decode cX5_newLaw 0 = .ok (.aload_n 0, 1) := by decide +kernel
theorem dX5_newLaw_1 : decode cX5_newLaw 1 = .ok (.aload_n 0, 1) := by decide +kernel
theorem dX5_newLaw_2 : decode cX5_newLaw 2 = .ok (.getfield 15, 3) := by decide +kernel
theorem dX5_newLaw_5 : decode cX5_newLaw 5 = .ok (.getfield 141, 3) := by decide +kernel
theorem dX5_newLaw_8 : decode cX5_newLaw 8 = .ok (.invokevirtual 96, 3) := by decide +kernel
theorem dX5_newLaw_11 : decode cX5_newLaw 11 = .ok (.ifCond .ne 5, 3) := by decide +kernel
theorem dX5_newLaw_14 : decode cX5_newLaw 14 = .ok (.iconst 0, 1) := by decide +kernel
theorem dX5_newLaw_15 : decode cX5_newLaw 15 = .ok (.ireturn, 1) := by decide +kernel
theorem dX5_newLaw_16 : decode cX5_newLaw 16 = .ok (.aload_n 0, 1) := by decide +kernel
theorem dX5_newLaw_17 : decode cX5_newLaw 17 = .ok (.getfield 15, 3) := by decide +kernel
theorem dX5_newLaw_20 : decode cX5_newLaw 20 = .ok (.getfield 141, 3) := by decide +kernel
theorem dX5_newLaw_23 : decode cX5_newLaw 23 = .ok (.iconst 0, 1) := by decide +kernel
theorem dX5_newLaw_24 : decode cX5_newLaw 24 = .ok (.invokevirtual 138, 3) := by decide +kernel
theorem dX5_newLaw_27 : decode cX5_newLaw 27 = .ok (.istore_n 1, 1) := by decide +kernel
theorem dX5_newLaw_28 : decode cX5_newLaw 28 = .ok (.aload_n 0, 1) := by decide +kernel
theorem dX5_newLaw_29 : decode cX5_newLaw 29 = .ok (.getfield 15, 3) := by decide +kernel
theorem dX5_newLaw_32 : decode cX5_newLaw 32 = .ok (.getfield 141, 3) := by decide +kernel
theorem dX5_newLaw_35 : decode cX5_newLaw 35 = .ok (.iload_n 1, 1) := by decide +kernel
theorem dX5_newLaw_36 : decode cX5_newLaw 36 = .ok (.iconst 0, 1) := by decide +kernel
theorem dX5_newLaw_37 : decode cX5_newLaw 37 = .ok (.aload_n 0, 1) := by decide +kernel
theorem dX5_newLaw_38 : decode cX5_newLaw 38 = .ok (.getfield 15, 3) := by decide +kernel
