theorem dX5_newLaw_41 : decode cX5_newLaw 41 = .ok (.getfield 144, 3) := by decide +kernel
theorem dX5_newLaw_44 : decode cX5_newLaw 44 = .ok (.invokevirtual 147, 3) := by decide +kernel
theorem dX5_newLaw_47 : decode cX5_newLaw 47 = .ok (.aload_n 0, 1) := by decide +kernel
theorem dX5_newLaw_48 : decode cX5_newLaw 48 = .ok (.iconst 0, 1) := by decide +kernel
theorem dX5_newLaw_49 : decode cX5_newLaw 49 = .ok (.invokevirtual 151, 3) := by decide +kernel
theorem dX5_newLaw_52 : decode cX5_newLaw 52 = .ok (.ifCond .eq 13, 3) := by decide +kernel
theorem dX5_newLaw_55 : decode cX5_newLaw 55 = .ok (.aload_n 0, 1) := by decide +kernel
theorem dX5_newLaw_56 : decode cX5_newLaw 56 = .ok (.sipush 413, 3) := by decide +kernel
theorem dX5_newLaw_59 : decode cX5_newLaw 59 = .ok (.invokevirtual 66, 3) := by decide +kernel
theorem dX5_newLaw_62 : decode cX5_newLaw 62 = .ok (.ifCond .ne 5, 3) := by decide +kernel
theorem dX5_newLaw_65 : decode cX5_newLaw 65 = .ok (.iconst 0, 1) := by decide +kernel
theorem dX5_newLaw_66 : decode cX5_newLaw 66 = .ok (.ireturn, 1) := by decide +kernel
theorem dX5_newLaw_67 : decode cX5_newLaw 67 = .ok (.aload_n 0, 1) := by decide +kernel
theorem dX5_newLaw_68 : decode cX5_newLaw 68 = .ok (.getfield 15, 3) := by decide +kernel
theorem dX5_newLaw_71 : decode cX5_newLaw 71 = .ok (.getfield 141, 3) := by decide +kernel
theorem dX5_newLaw_74 : decode cX5_newLaw 74 = .ok (.iload_n 1, 1) := by decide +kernel
theorem dX5_newLaw_75 : decode cX5_newLaw 75 = .ok (.iconst 1, 1) := by decide +kernel
theorem dX5_newLaw_76 : decode cX5_newLaw 76 = .ok (.aload_n 0, 1) := by decide +kernel
theorem dX5_newLaw_77 : decode cX5_newLaw 77 = .ok (.getfield 15, 3) := by decide +kernel
theorem dX5_newLaw_80 : decode cX5_newLaw 80 = .ok (.getfield 144, 3) := by decide +kernel
theorem dX5_newLaw_83 : decode cX5_newLaw 83 = .ok (.invokevirtual 147, 3) := by decide +kernel
theorem dX5_newLaw_86 : decode cX5_newLaw 86 = .ok (.aload_n 0, 1) := by decide +kernel
theorem dX5_newLaw_87 : decode cX5_newLaw 87 = .ok (.iconst 0, 1) := by decide +kernel
theorem dX5_newLaw_88 : decode cX5_newLaw 88 = .ok (.invokevirtual 154, 3) := by decide +kernel
theorem dX5_newLaw_91 : decode cX5_newLaw 91 = .ok (.ifCond .ne 5, 3) := by decide +kernel
theorem dX5_newLaw_94 : decode cX5_newLaw 94 = .ok (.iconst 0, 1) := by decide +kernel
theorem dX5_newLaw_95 : decode cX5_newLaw 95 = .ok (.ireturn, 1) := by decide +kernel
theorem dX5_newLaw_96 : decode cX5_newLaw 96 = .ok (.aload_n 0, 1) := by decide +kernel
theorem dX5_newLaw_97 : decode cX5_newLaw 97 = .ok (.getfield 15, 3) := by decide +kernel
theorem dX5_newLaw_100 : decode cX5_newLaw 100 = .ok (.getfield 141, 3) := by decide +kernel
theorem dX5_newLaw_103 : decode cX5_newLaw 103 = .ok (.iload_n 1, 1) := by decide +kernel
theorem dX5_newLaw_104 : decode cX5_newLaw 104 = .ok (.iconst 2, 1) := by decide +kernel
theorem dX5_newLaw_105 : decode cX5_newLaw 105 = .ok (.aload_n 0, 1) := by decide +kernel
theorem dX5_newLaw_106 : decode cX5_newLaw 106 = .ok (.getfield 15, 3) := by decide +kernel
theorem dX5_newLaw_109 : decode cX5_newLaw 109 = .ok (.getfield 144, 3) := by decide +kernel
theorem dX5_newLaw_112 : decode cX5_newLaw 112 = .ok (.invokevirtual 147, 3) := by decide +kernel
theorem dX5_newLaw_115 : decode cX5_newLaw 115 = .ok (.iconst 1, 1) := by decide +kernel
theorem dX5_newLaw_116 : decode cX5_newLaw 116 = .ok (.ireturn, 1) := by decide +kernel
theorem dX5_begin_0 : decode cX5_begin 0 = .ok (.aload_n 1, 1) := by decide +kernel
theorem dX5_begin_1 : decode cX5_begin 1 = .ok (.invokevirtual 157, 3) := by decide +kernel
theorem dX5_begin_4 : decode cX5_begin 4 = .ok (.ifCond .eq 12, 3) := by decide +kernel
theorem dX5_begin_7 : decode cX5_begin 7 = .ok (.aload_n 0, 1) := by decide +kernel
theorem dX5_begin_8 : decode cX5_begin 8 = .ok (.getfield 9, 3) := by decide +kernel
theorem dX5_begin_11 : decode cX5_begin 11 = .ok (.iconst 5, 1) := by decide +kernel
theorem dX5_begin_12 : decode cX5_begin 12 = .ok (.invokevirtual 62, 3) := by decide +kernel
theorem dX5_begin_15 : decode cX5_begin 15 = .ok (.ireturn, 1) := by decide +kernel
theorem dX5_begin_16 : decode cX5_begin 16 = .ok (.aload_n 0, 1) := by decide +kernel
theorem dX5_begin_17 : decode cX5_begin 17 = .ok (.getfield 9, 3) := by decide +kernel
theorem dX5_begin_20 : decode cX5_begin 20 = .ok (.invokevirtual 72, 3) := by decide +kernel
theorem dX5_begin_23 : decode cX5_begin 23 = .ok (.iconst 1, 1) := by decide +kernel
theorem dX5_begin_24 : decode cX5_begin 24 = .ok (.ireturn, 1) := by decide +kernel
theorem dX5_token_0 : decode cX5_token 0 = .ok (.aload_n 0, 1) := by decide +kernel
theorem dX5_token_1 : decode cX5_token 1 = .ok (.getfield 9, 3) := by decide +kernel
theorem dX5_token_4 : decode cX5_token 4 = .ok (.invokevirtual 28, 3) := by decide +kernel
theorem dX5_token_7 : decode cX5_token 7 = .ok (.iload_n 1, 1) := by decide +kernel
theorem dX5_token_8 : decode cX5_token 8 = .ok (.if_icmp .eq 12, 3) := by decide +kernel
theorem dX5_token_11 : decode cX5_token 11 = .ok (.aload_n 0, 1) := by decide +kernel
theorem dX5_token_12 : decode cX5_token 12 = .ok (.getfield 9, 3) := by decide +kernel
theorem dX5_token_15 : decode cX5_token 15 = .ok (.iconst 1, 1) := by decide +kernel
theorem dX5_token_16 : decode cX5_token 16 = .ok (.invokevirtual 62, 3) := by decide +kernel
theorem dX5_token_19 : decode cX5_token 19 = .ok (.ireturn, 1) := by decide +kernel
theorem dX5_token_20 : decode cX5_token 20 = .ok (.aload_n 0, 1) := by decide +kernel
theorem dX5_token_21 : decode cX5_token 21 = .ok (.getfield 9, 3) := by decide +kernel
theorem dX5_token_24 : decode cX5_token 24 = .ok (.invokevirtual 72, 3) := by decide +kernel
theorem dX5_token_27 : decode cX5_token 27 = .ok (.iconst 1, 1) := by decide +kernel
theorem dX5_token_28 : decode cX5_token 28 = .ok (.ireturn, 1) := by decide +kernel
theorem dX5_number_0 : decode cX5_number 0 = .ok (.aload_n 0, 1) := by decide +kernel
theorem dX5_number_1 : decode cX5_number 1 = .ok (.getfield 9, 3) := by decide +kernel
theorem dX5_number_4 : decode cX5_number 4 = .ok (.invokevirtual 28, 3) := by decide +kernel
theorem dX5_number_7 : decode cX5_number 7 = .ok (.sipush 301, 3) := by decide +kernel
theorem dX5_number_10 : decode cX5_number 10 = .ok (.if_icmp .eq 12, 3) := by decide +kernel
theorem dX5_number_13 : decode cX5_number 13 = .ok (.aload_n 0, 1) := by decide +kernel
theorem dX5_number_14 : decode cX5_number 14 = .ok (.getfield 9, 3) := by decide +kernel
theorem dX5_number_17 : decode cX5_number 17 = .ok (.iconst 1, 1) := by decide +kernel
theorem dX5_number_18 : decode cX5_number 18 = .ok (.invokevirtual 62, 3) := by decide +kernel
theorem dX5_number_21 : decode cX5_number 21 = .ok (.ireturn, 1) := by decide +kernel
theorem dX5_number_22 : decode cX5_number 22 = .ok (.aload_n 0, 1) := by decide +kernel
theorem dX5_number_23 : decode cX5_number 23 = .ok (.getfield 9, 3) := by decide +kernel
theorem dX5_number_26 : decode cX5_number 26 = .ok (.getfield 116, 3) := by decide +kernel
theorem dX5_number_29 : decode cX5_number 29 = .ok (.iload_n 1, 1) := by decide +kernel
theorem dX5_number_30 : decode cX5_number 30 = .ok (.if_icmp .lt 14, 3) := by decide +kernel
theorem dX5_number_33 : decode cX5_number 33 = .ok (.aload_n 0, 1) := by decide +kernel
theorem dX5_number_34 : decode cX5_number 34 = .ok (.getfield 9, 3) := by decide +kernel
theorem dX5_number_37 : decode cX5_number 37 = .ok (.getfield 116, 3) := by decide +kernel
theorem dX5_number_40 : decode cX5_number 40 = .ok (.iload_n 2, 1) := by decide +kernel
theorem dX5_number_41 : decode cX5_number 41 = .ok (.if_icmp .le 12, 3) := by decide +kernel
theorem dX5_number_44 : decode cX5_number 44 = .ok (.aload_n 0, 1) := by decide +kernel
theorem dX5_number_45 : decode cX5_number 45 = .ok (.getfield 9, 3) := by decide +kernel
theorem dX5_number_48 : decode cX5_number 48 = .ok (.iconst 4, 1) := by decide +kernel
theorem dX5_number_49 : decode cX5_number 49 = .ok (.invokevirtual 62, 3) := by decide +kernel
theorem dX5_number_52 : decode cX5_number 52 = .ok (.ireturn, 1) := by decide +kernel
theorem dX5_number_53 : decode cX5_number 53 = .ok (.aload_n 0, 1) := by decide +kernel
theorem dX5_number_54 : decode cX5_number 54 = .ok (.aload_n 0, 1) := by decide +kernel
theorem dX5_number_55 : decode cX5_number 55 = .ok (.getfield 9, 3) := by decide +kernel
theorem dX5_number_58 : decode cX5_number 58 = .ok (.getfield 116, 3) := by decide +kernel
theorem dX5_number_61 : decode cX5_number 61 = .ok (.putfield 19, 3) := by decide +kernel
theorem dX5_number_64 : decode cX5_number 64 = .ok (.aload_n 0, 1) := by decide +kernel
theorem dX5_number_65 : decode cX5_number 65 = .ok (.getfield 9, 3) := by decide +kernel
theorem dX5_number_68 : decode cX5_number 68 = .ok (.invokevirtual 72, 3) := by decide +kernel
theorem dX5_number_71 : decode cX5_number 71 = .ok (.iconst 1, 1) := by decide +kernel
theorem dX5_number_72 : decode cX5_number 72 = .ok (.ireturn, 1) := by decide +kernel
theorem dX5_keep_0 : decode cX5_keep 0 = .ok (.aload_n 1, 1) := by decide +kernel
theorem dX5_keep_1 : decode cX5_keep 1 = .ok (.aload_n 1, 1) := by decide +kernel
theorem dX5_keep_2 : decode cX5_keep 2 = .ok (.getfield 131, 3) := by decide +kernel
theorem dX5_keep_5 : decode cX5_keep 5 = .ok (.iconst 1, 1) := by decide +kernel
theorem dX5_keep_6 : decode cX5_keep 6 = .ok (.isub, 1) := by decide +kernel
theorem dX5_keep_7 : decode cX5_keep 7 = .ok (.iload_n 2, 1) := by decide +kernel
theorem dX5_keep_8 : decode cX5_keep 8 = .ok (.aload_n 0, 1) := by decide +kernel
theorem dX5_keep_9 : decode cX5_keep 9 = .ok (.getfield 19, 3) := by decide +kernel
theorem dX5_keep_12 : decode cX5_keep 12 = .ok (.invokevirtual 147, 3) := by decide +kernel
theorem dX5_keep_15 : decode cX5_keep 15 = .ok (.iconst 1, 1) := by decide +kernel
theorem dX5_keep_16 : decode cX5_keep 16 = .ok (.ireturn, 1) := by decide +kernel
theorem dX5_oneLetter_0 : decode cX5_oneLetter 0 = .ok (.aload_n 0, 1) := by decide +kernel
theorem dX5_oneLetter_1 : decode cX5_oneLetter 1 = .ok (.getfield 9, 3) := by decide +kernel
theorem dX5_oneLetter_4 : decode cX5_oneLetter 4 = .ok (.invokevirtual 28, 3) := by decide +kernel
theorem dX5_oneLetter_7 : decode cX5_oneLetter 7 = .ok (.sipush 300, 3) := by decide +kernel
theorem dX5_oneLetter_10 : decode cX5_oneLetter 10 = .ok (.if_icmp .eq 12, 3) := by decide +kernel
theorem dX5_oneLetter_13 : decode cX5_oneLetter 13 = .ok (.aload_n 0, 1) := by decide +kernel
theorem dX5_oneLetter_14 : decode cX5_oneLetter 14 = .ok (.getfield 9, 3) := by decide +kernel
theorem dX5_oneLetter_17 : decode cX5_oneLetter 17 = .ok (.iconst 1, 1) := by decide +kernel
theorem dX5_oneLetter_18 : decode cX5_oneLetter 18 = .ok (.invokevirtual 62, 3) := by decide +kernel
theorem dX5_oneLetter_21 : decode cX5_oneLetter 21 = .ok (.ireturn, 1) := by decide +kernel
theorem dX5_oneLetter_22 : decode cX5_oneLetter 22 = .ok (.aload_n 0, 1) := by decide +kernel
theorem dX5_oneLetter_23 : decode cX5_oneLetter 23 = .ok (.getfield 9, 3) := by decide +kernel
theorem dX5_oneLetter_26 : decode cX5_oneLetter 26 = .ok (.getfield 116, 3) := by decide +kernel
theorem dX5_oneLetter_29 : decode cX5_oneLetter 29 = .ok (.iconst 0, 1) := by decide +kernel
theorem dX5_oneLetter_30 : decode cX5_oneLetter 30 = .ok (.invokestatic 160, 3) := by decide +kernel
theorem dX5_oneLetter_33 : decode cX5_oneLetter 33 = .ok (.istore_n 1, 1) := by decide +kernel
theorem dX5_oneLetter_34 : decode cX5_oneLetter 34 = .ok (.aload_n 0, 1) := by decide +kernel
theorem dX5_oneLetter_35 : decode cX5_oneLetter 35 = .ok (.getfield 9, 3) := by decide +kernel
theorem dX5_oneLetter_38 : decode cX5_oneLetter 38 = .ok (.getfield 116, 3) := by decide +kernel
theorem dX5_oneLetter_41 : decode cX5_oneLetter 41 = .ok (.invokestatic 163, 3) := by decide +kernel
theorem dX5_oneLetter_44 : decode cX5_oneLetter 44 = .ok (.iconst 1, 1) := by decide +kernel
theorem dX5_oneLetter_45 : decode cX5_oneLetter 45 = .ok (.if_icmp .ne 13, 3) := by decide +kernel
theorem dX5_oneLetter_48 : decode cX5_oneLetter 48 = .ok (.iload_n 1, 1) := by decide +kernel
theorem dX5_oneLetter_49 : decode cX5_oneLetter 49 = .ok (.ifCond .lt 9, 3) := by decide +kernel
theorem dX5_oneLetter_52 : decode cX5_oneLetter 52 = .ok (.iload_n 1, 1) := by decide +kernel
theorem dX5_oneLetter_53 : decode cX5_oneLetter 53 = .ok (.bipush 26, 2) := by decide +kernel
theorem dX5_oneLetter_55 : decode cX5_oneLetter 55 = .ok (.if_icmp .lt 12, 3) := by decide +kernel
theorem dX5_oneLetter_58 : decode cX5_oneLetter 58 = .ok (.aload_n 0, 1) := by decide +kernel
theorem dX5_oneLetter_59 : decode cX5_oneLetter 59 = .ok (.getfield 9, 3) := by decide +kernel
theorem dX5_oneLetter_62 : decode cX5_oneLetter 62 = .ok (.iconst 1, 1) := by decide +kernel
theorem dX5_oneLetter_63 : decode cX5_oneLetter 63 = .ok (.invokevirtual 62, 3) := by decide +kernel
theorem dX5_oneLetter_66 : decode cX5_oneLetter 66 = .ok (.ireturn, 1) := by decide +kernel
theorem dX5_oneLetter_67 : decode cX5_oneLetter 67 = .ok (.aload_n 0, 1) := by decide +kernel
theorem dX5_oneLetter_68 : decode cX5_oneLetter 68 = .ok (.iload_n 1, 1) := by decide +kernel
theorem dX5_oneLetter_69 : decode cX5_oneLetter 69 = .ok (.putfield 19, 3) := by decide +kernel
theorem dX5_oneLetter_72 : decode cX5_oneLetter 72 = .ok (.aload_n 0, 1) := by decide +kernel
theorem dX5_oneLetter_73 : decode cX5_oneLetter 73 = .ok (.getfield 9, 3) := by decide +kernel
theorem dX5_oneLetter_76 : decode cX5_oneLetter 76 = .ok (.invokevirtual 72, 3) := by decide +kernel
theorem dX5_oneLetter_79 : decode cX5_oneLetter 79 = .ok (.iconst 1, 1) := by decide +kernel
theorem dX5_oneLetter_80 : decode cX5_oneLetter 80 = .ok (.ireturn, 1) := by decide +kernel
theorem dX5_newName_0 : decode cX5_newName 0 = .ok (.aload_n 0, 1) := by decide +kernel
theorem dX5_newName_1 : decode cX5_newName 1 = .ok (.getfield 9, 3) := by decide +kernel
theorem dX5_newName_4 : decode cX5_newName 4 = .ok (.invokevirtual 28, 3) := by decide +kernel
theorem dX5_newName_7 : decode cX5_newName 7 = .ok (.sipush 300, 3) := by decide +kernel
theorem dX5_newName_10 : decode cX5_newName 10 = .ok (.if_icmp .eq 12, 3) := by decide +kernel
theorem dX5_newName_13 : decode cX5_newName 13 = .ok (.aload_n 0, 1) := by decide +kernel
theorem dX5_newName_14 : decode cX5_newName 14 = .ok (.getfield 9, 3) := by decide +kernel
theorem dX5_newName_17 : decode cX5_newName 17 = .ok (.iconst 1, 1) := by decide +kernel
theorem dX5_newName_18 : decode cX5_newName 18 = .ok (.invokevirtual 62, 3) := by decide +kernel
theorem dX5_newName_21 : decode cX5_newName 21 = .ok (.ireturn, 1) := by decide +kernel
theorem dX5_newName_22 : decode cX5_newName 22 = .ok (.aload_n 0, 1) := by decide +kernel
theorem dX5_newName_23 : decode cX5_newName 23 = .ok (.getfield 15, 3) := by decide +kernel
theorem dX5_newName_26 : decode cX5_newName 26 = .ok (.aload_n 0, 1) := by decide +kernel
theorem dX5_newName_27 : decode cX5_newName 27 = .ok (.getfield 9, 3) := by decide +kernel
theorem dX5_newName_30 : decode cX5_newName 30 = .ok (.getfield 116, 3) := by decide +kernel
theorem dX5_newName_33 : decode cX5_newName 33 = .ok (.invokevirtual 166, 3) := by decide +kernel
theorem dX5_newName_36 : decode cX5_newName 36 = .ok (.ifCond .eq 12, 3) := by decide +kernel
theorem dX5_newName_39 : decode cX5_newName 39 = .ok (.aload_n 0, 1) := by decide +kernel
theorem dX5_newName_40 : decode cX5_newName 40 = .ok (.getfield 9, 3) := by decide +kernel
theorem dX5_newName_43 : decode cX5_newName 43 = .ok (.iconst 2, 1) := by decide +kernel
theorem dX5_newName_44 : decode cX5_newName 44 = .ok (.invokevirtual 62, 3) := by decide +kernel
theorem dX5_newName_47 : decode cX5_newName 47 = .ok (.ireturn, 1) := by decide +kernel
theorem dX5_newName_48 : decode cX5_newName 48 = .ok (.aload_n 1, 1) := by decide +kernel
theorem dX5_newName_49 : decode cX5_newName 49 = .ok (.aload_n 0, 1) := by decide +kernel
theorem dX5_newName_50 : decode cX5_newName 50 = .ok (.getfield 9, 3) := by decide +kernel
theorem dX5_newName_53 : decode cX5_newName 53 = .ok (.getfield 116, 3) := by decide +kernel
theorem dX5_newName_56 : decode cX5_newName 56 = .ok (.invokevirtual 138, 3) := by decide +kernel
theorem dX5_newName_59 : decode cX5_newName 59 = .ok (.pop, 1) := by decide +kernel
theorem dX5_newName_60 : decode cX5_newName 60 = .ok (.aload_n 0, 1) := by decide +kernel
theorem dX5_newName_61 : decode cX5_newName 61 = .ok (.getfield 9, 3) := by decide +kernel
theorem dX5_newName_64 : decode cX5_newName 64 = .ok (.invokevirtual 72, 3) := by decide +kernel
theorem dX5_newName_67 : decode cX5_newName 67 = .ok (.iconst 1, 1) := by decide +kernel
theorem dX5_newName_68 : decode cX5_newName 68 = .ok (.ireturn, 1) := by decide +kernel
theorem dX5_knownName_0 : decode cX5_knownName 0 = .ok (.aload_n 0, 1) := by decide +kernel
theorem dX5_knownName_1 : decode cX5_knownName 1 = .ok (.getfield 9, 3) := by decide +kernel
theorem dX5_knownName_4 : decode cX5_knownName 4 = .ok (.invokevirtual 28, 3) := by decide +kernel
theorem dX5_knownName_7 : decode cX5_knownName 7 = .ok (.sipush 300, 3) := by decide +kernel
theorem dX5_knownName_10 : decode cX5_knownName 10 = .ok (.if_icmp .eq 12, 3) := by decide +kernel
theorem dX5_knownName_13 : decode cX5_knownName 13 = .ok (.aload_n 0, 1) := by decide +kernel
theorem dX5_knownName_14 : decode cX5_knownName 14 = .ok (.getfield 9, 3) := by decide +kernel
theorem dX5_knownName_17 : decode cX5_knownName 17 = .ok (.iconst 1, 1) := by decide +kernel
theorem dX5_knownName_18 : decode cX5_knownName 18 = .ok (.invokevirtual 62, 3) := by decide +kernel
theorem dX5_knownName_21 : decode cX5_knownName 21 = .ok (.ireturn, 1) := by decide +kernel
theorem dX5_knownName_22 : decode cX5_knownName 22 = .ok (.aload_n 0, 1) := by decide +kernel
theorem dX5_knownName_23 : decode cX5_knownName 23 = .ok (.aload_n 1, 1) := by decide +kernel
theorem dX5_knownName_24 : decode cX5_knownName 24 = .ok (.aload_n 0, 1) := by decide +kernel
theorem dX5_knownName_25 : decode cX5_knownName 25 = .ok (.getfield 9, 3) := by decide +kernel
theorem dX5_knownName_28 : decode cX5_knownName 28 = .ok (.getfield 116, 3) := by decide +kernel
theorem dX5_knownName_31 : decode cX5_knownName 31 = .ok (.invokevirtual 119, 3) := by decide +kernel
theorem dX5_knownName_34 : decode cX5_knownName 34 = .ok (.putfield 19, 3) := by decide +kernel
theorem dX5_knownName_37 : decode cX5_knownName 37 = .ok (.aload_n 0, 1) := by decide +kernel
theorem dX5_knownName_38 : decode cX5_knownName 38 = .ok (.getfield 19, 3) := by decide +kernel
theorem dX5_knownName_41 : decode cX5_knownName 41 = .ok (.iconst (-1), 1) := by decide +kernel
theorem dX5_knownName_42 : decode cX5_knownName 42 = .ok (.if_icmp .ne 12, 3) := by decide +kernel
theorem dX5_knownName_45 : decode cX5_knownName 45 = .ok (.aload_n 0, 1) := by decide +kernel
theorem dX5_knownName_46 : decode cX5_knownName 46 = .ok (.getfield 9, 3) := by decide +kernel
theorem dX5_knownName_49 : decode cX5_knownName 49 = .ok (.iconst 3, 1) := by decide +kernel
theorem dX5_knownName_50 : decode cX5_knownName 50 = .ok (.invokevirtual 62, 3) := by decide +kernel
theorem dX5_knownName_53 : decode cX5_knownName 53 = .ok (.ireturn, 1) := by decide +kernel
theorem dX5_knownName_54 : decode cX5_knownName 54 = .ok (.aload_n 0, 1) := by decide +kernel
theorem dX5_knownName_55 : decode cX5_knownName 55 = .ok (.getfield 9, 3) := by decide +kernel
theorem dX5_knownName_58 : decode cX5_knownName 58 = .ok (.invokevirtual 72, 3) := by decide +kernel
theorem dX5_knownName_61 : decode cX5_knownName 61 = .ok (.iconst 1, 1) := by decide +kernel
theorem dX5_knownName_62 : decode cX5_knownName 62 = .ok (.ireturn, 1) := by decide +kernel
theorem dX5_test_0 : decode cX5_test 0 = .ok (.aload_n 0, 1) := by decide +kernel
theorem dX5_test_1 : decode cX5_test 1 = .ok (.iload_n 1, 1) := by decide +kernel
theorem dX5_test_2 : decode cX5_test 2 = .ok (.invokevirtual 169, 3) := by decide +kernel
theorem dX5_test_5 : decode cX5_test 5 = .ok (.istore_n 2, 1) := by decide +kernel
theorem dX5_test_6 : decode cX5_test 6 = .ok (.iconst 0, 1) := by decide +kernel
theorem dX5_test_7 : decode cX5_test 7 = .ok (.istore_n 3, 1) := by decide +kernel
theorem dX5_test_8 : decode cX5_test 8 = .ok (.iload_n 3, 1) := by decide +kernel
theorem dX5_test_9 : decode cX5_test 9 = .ok (.sipush 1600, 3) := by decide +kernel
theorem dX5_test_12 : decode cX5_test 12 = .ok (.if_icmp .ge 59, 3) := by decide +kernel
theorem dX5_test_15 : decode cX5_test 15 = .ok (.iload_n 2, 1) := by decide +kernel
theorem dX5_test_16 : decode cX5_test 16 = .ok (.ifCond .eq 55, 3) := by decide +kernel
theorem dX5_test_19 : decode cX5_test 19 = .ok (.aload_n 0, 1) := by decide +kernel
theorem dX5_test_20 : decode cX5_test 20 = .ok (.getfield 9, 3) := by decide +kernel
theorem dX5_test_23 : decode cX5_test 23 = .ok (.invokevirtual 28, 3) := by decide +kernel
theorem dX5_test_26 : decode cX5_test 26 = .ok (.sipush 414, 3) := by decide +kernel
theorem dX5_test_29 : decode cX5_test 29 = .ok (.if_icmp .ne 42, 3) := by decide +kernel
theorem dX5_test_32 : decode cX5_test 32 = .ok (.aload_n 0, 1) := by decide +kernel
theorem dX5_test_33 : decode cX5_test 33 = .ok (.getfield 9, 3) := by decide +kernel
theorem dX5_test_36 : decode cX5_test 36 = .ok (.invokevirtual 72, 3) := by decide +kernel
theorem dX5_test_39 : decode cX5_test 39 = .ok (.aload_n 0, 1) := by decide +kernel
theorem dX5_test_40 : decode cX5_test 40 = .ok (.iload_n 1, 1) := by decide +kernel
theorem dX5_test_41 : decode cX5_test 41 = .ok (.invokevirtual 169, 3) := by decide +kernel
theorem dX5_test_44 : decode cX5_test 44 = .ok (.ifCond .eq 19, 3) := by decide +kernel
theorem dX5_test_47 : decode cX5_test 47 = .ok (.aload_n 0, 1) := by decide +kernel
theorem dX5_test_48 : decode cX5_test 48 = .ok (.getfield 15, 3) := by decide +kernel
theorem dX5_test_51 : decode cX5_test 51 = .ok (.bipush (-7), 2) := by decide +kernel
theorem dX5_test_53 : decode cX5_test 53 = .ok (.invokevirtual 174, 3) := by decide +kernel
theorem dX5_test_56 : decode cX5_test 56 = .ok (.ifCond .eq 7, 3) := by decide +kernel
theorem dX5_test_59 : decode cX5_test 59 = .ok (.iconst 1, 1) := by decide +kernel
theorem dX5_test_60 : decode cX5_test 60 = .ok (.goto 4, 3) := by decide +kernel
theorem dX5_test_63 : decode cX5_test 63 = .ok (.iconst 0, 1) := by decide +kernel
theorem dX5_test_64 : decode cX5_test 64 = .ok (.istore_n 2, 1) := by decide +kernel
theorem dX5_test_65 : decode cX5_test 65 = .ok (.iinc 3 1, 3) := by decide +kernel
theorem dX5_test_68 : decode cX5_test 68 = .ok (.goto (-60), 3) := by decide +kernel
theorem dX5_test_71 : decode cX5_test 71 = .ok (.iload_n 2, 1) := by decide +kernel
theorem dX5_test_72 : decode cX5_test 72 = .ok (.ireturn, 1) := by decide +kernel
theorem dX5_both_0 : decode cX5_both 0 = .ok (.aload_n 0, 1) := by decide +kernel
theorem dX5_both_1 : decode cX5_both 1 = .ok (.iload_n 1, 1) := by decide +kernel
theorem dX5_both_2 : decode cX5_both 2 = .ok (.invokevirtual 177, 3) := by decide +kernel
theorem dX5_both_5 : decode cX5_both 5 = .ok (.istore_n 2, 1) := by decide +kernel
theorem dX5_both_6 : decode cX5_both 6 = .ok (.iconst 0, 1) := by decide +kernel
theorem dX5_both_7 : decode cX5_both 7 = .ok (.istore_n 3, 1) := by decide +kernel
theorem dX5_both_8 : decode cX5_both 8 = .ok (.iload_n 3, 1) := by decide +kernel
theorem dX5_both_9 : decode cX5_both 9 = .ok (.sipush 1600, 3) := by decide +kernel
theorem dX5_both_12 : decode cX5_both 12 = .ok (.if_icmp .ge 59, 3) := by decide +kernel
theorem dX5_both_15 : decode cX5_both 15 = .ok (.iload_n 2, 1) := by decide +kernel
theorem dX5_both_16 : decode cX5_both 16 = .ok (.ifCond .eq 55, 3) := by decide +kernel
theorem dX5_both_19 : decode cX5_both 19 = .ok (.aload_n 0, 1) := by decide +kernel
theorem dX5_both_20 : decode cX5_both 20 = .ok (.getfield 9, 3) := by decide +kernel
theorem dX5_both_23 : decode cX5_both 23 = .ok (.invokevirtual 28, 3) := by decide +kernel
theorem dX5_both_26 : decode cX5_both 26 = .ok (.sipush 415, 3) := by decide +kernel
theorem dX5_both_29 : decode cX5_both 29 = .ok (.if_icmp .ne 42, 3) := by decide +kernel
theorem dX5_both_32 : decode cX5_both 32 = .ok (.aload_n 0, 1) := by decide +kernel
theorem dX5_both_33 : decode cX5_both 33 = .ok (.getfield 9, 3) := by decide +kernel
theorem dX5_both_36 : decode cX5_both 36 = .ok (.invokevirtual 72, 3) := by decide +kernel
theorem dX5_both_39 : decode cX5_both 39 = .ok (.aload_n 0, 1) := by decide +kernel
theorem dX5_both_40 : decode cX5_both 40 = .ok (.iload_n 1, 1) := by decide +kernel
theorem dX5_both_41 : decode cX5_both 41 = .ok (.invokevirtual 177, 3) := by decide +kernel
theorem dX5_both_44 : decode cX5_both 44 = .ok (.ifCond .eq 19, 3) := by decide +kernel
theorem dX5_both_47 : decode cX5_both 47 = .ok (.aload_n 0, 1) := by decide +kernel
theorem dX5_both_48 : decode cX5_both 48 = .ok (.getfield 15, 3) := by decide +kernel
theorem dX5_both_51 : decode cX5_both 51 = .ok (.bipush (-8), 2) := by decide +kernel
theorem dX5_both_53 : decode cX5_both 53 = .ok (.invokevirtual 174, 3) := by decide +kernel
theorem dX5_both_56 : decode cX5_both 56 = .ok (.ifCond .eq 7, 3) := by decide +kernel
theorem dX5_both_59 : decode cX5_both 59 = .ok (.iconst 1, 1) := by decide +kernel
theorem dX5_both_60 : decode cX5_both 60 = .ok (.goto 4, 3) := by decide +kernel
theorem dX5_both_63 : decode cX5_both 63 = .ok (.iconst 0, 1) := by decide +kernel
theorem dX5_both_64 : decode cX5_both 64 = .ok (.istore_n 2, 1) := by decide +kernel
theorem dX5_both_65 : decode cX5_both 65 = .ok (.iinc 3 1, 3) := by decide +kernel
theorem dX5_both_68 : decode cX5_both 68 = .ok (.goto (-60), 3) := by decide +kernel
theorem dX5_both_71 : decode cX5_both 71 = .ok (.iload_n 2, 1) := by decide +kernel
theorem dX5_both_72 : decode cX5_both 72 = .ok (.ireturn, 1) := by decide +kernel
theorem dX5_fact_0 : decode cX5_fact 0 = .ok (.iconst 0, 1) := by decide +kernel
theorem dX5_fact_1 : decode cX5_fact 1 = .ok (.istore_n 2, 1) := by decide +kernel
theorem dX5_fact_2 : decode cX5_fact 2 = .ok (.iconst 0, 1) := by decide +kernel
theorem dX5_fact_3 : decode cX5_fact 3 = .ok (.istore_n 3, 1) := by decide +kernel
theorem dX5_fact_4 : decode cX5_fact 4 = .ok (.iload_n 3, 1) := by decide +kernel
theorem dX5_fact_5 : decode cX5_fact 5 = .ok (.sipush 1600, 3) := by decide +kernel
theorem dX5_fact_8 : decode cX5_fact 8 = .ok (.if_icmp .ge 39, 3) := by decide +kernel
theorem dX5_fact_11 : decode cX5_fact 11 = .ok (.aload_n 0, 1) := by decide +kernel
theorem dX5_fact_12 : decode cX5_fact 12 = .ok (.getfield 9, 3) := by decide +kernel
theorem dX5_fact_15 : decode cX5_fact 15 = .ok (.invokevirtual 28, 3) := by decide +kernel
theorem dX5_fact_18 : decode cX5_fact 18 = .ok (.sipush 416, 3) := by decide +kernel
theorem dX5_fact_21 : decode cX5_fact 21 = .ok (.if_icmp .ne 26, 3) := by decide +kernel
theorem dX5_fact_24 : decode cX5_fact 24 = .ok (.aload_n 0, 1) := by decide +kernel
theorem dX5_fact_25 : decode cX5_fact 25 = .ok (.getfield 9, 3) := by decide +kernel
theorem dX5_fact_28 : decode cX5_fact 28 = .ok (.invokevirtual 72, 3) := by decide +kernel
theorem dX5_fact_31 : decode cX5_fact 31 = .ok (.iload_n 2, 1) := by decide +kernel
theorem dX5_fact_32 : decode cX5_fact 32 = .ok (.ifCond .ne 7, 3) := by decide +kernel
theorem dX5_fact_35 : decode cX5_fact 35 = .ok (.iconst 1, 1) := by decide +kernel
theorem dX5_fact_36 : decode cX5_fact 36 = .ok (.goto 4, 3) := by decide +kernel
theorem dX5_fact_39 : decode cX5_fact 39 = .ok (.iconst 0, 1) := by decide +kernel
theorem dX5_fact_40 : decode cX5_fact 40 = .ok (.istore_n 2, 1) := by decide +kernel
theorem dX5_fact_41 : decode cX5_fact 41 = .ok (.iinc 3 1, 3) := by decide +kernel
theorem dX5_fact_44 : decode cX5_fact 44 = .ok (.goto (-40), 3) := by decide +kernel
theorem dX5_fact_47 : decode cX5_fact 47 = .ok (.aload_n 0, 1) := by decide +kernel
theorem dX5_fact_48 : decode cX5_fact 48 = .ok (.getfield 9, 3) := by decide +kernel
theorem dX5_fact_51 : decode cX5_fact 51 = .ok (.invokevirtual 28, 3) := by decide +kernel
theorem dX5_fact_54 : decode cX5_fact 54 = .ok (.sipush 417, 3) := by decide +kernel
theorem dX5_fact_57 : decode cX5_fact 57 = .ok (.if_icmp .ne 12, 3) := by decide +kernel
theorem dX5_fact_60 : decode cX5_fact 60 = .ok (.aload_n 0, 1) := by decide +kernel
theorem dX5_fact_61 : decode cX5_fact 61 = .ok (.iconst 1, 1) := by decide +kernel
theorem dX5_fact_62 : decode cX5_fact 62 = .ok (.invokevirtual 180, 3) := by decide +kernel
theorem dX5_fact_65 : decode cX5_fact 65 = .ok (.istore_n 3, 1) := by decide +kernel
theorem dX5_fact_66 : decode cX5_fact 66 = .ok (.goto 100, 3) := by decide +kernel
theorem dX5_fact_69 : decode cX5_fact 69 = .ok (.aload_n 0, 1) := by decide +kernel
theorem dX5_fact_70 : decode cX5_fact 70 = .ok (.getfield 9, 3) := by decide +kernel
theorem dX5_fact_73 : decode cX5_fact 73 = .ok (.invokevirtual 28, 3) := by decide +kernel
theorem dX5_fact_76 : decode cX5_fact 76 = .ok (.bipush 91, 2) := by decide +kernel
theorem dX5_fact_78 : decode cX5_fact 78 = .ok (.if_icmp .ne 39, 3) := by decide +kernel
theorem dX5_fact_81 : decode cX5_fact 81 = .ok (.aload_n 0, 1) := by decide +kernel
theorem dX5_fact_82 : decode cX5_fact 82 = .ok (.iload_n 1, 1) := by decide +kernel
theorem dX5_fact_83 : decode cX5_fact 83 = .ok (.invokevirtual 183, 3) := by decide +kernel
theorem dX5_fact_86 : decode cX5_fact 86 = .ok (.ifCond .eq 26, 3) := by decide +kernel
theorem dX5_fact_89 : decode cX5_fact 89 = .ok (.aload_n 0, 1) := by decide +kernel
theorem dX5_fact_90 : decode cX5_fact 90 = .ok (.iload_n 1, 1) := by decide +kernel
theorem dX5_fact_91 : decode cX5_fact 91 = .ok (.iconst 1, 1) := by decide +kernel
theorem dX5_fact_92 : decode cX5_fact 92 = .ok (.iadd, 1) := by decide +kernel
theorem dX5_fact_93 : decode cX5_fact 93 = .ok (.invokevirtual 154, 3) := by decide +kernel
theorem dX5_fact_96 : decode cX5_fact 96 = .ok (.ifCond .eq 16, 3) := by decide +kernel
theorem dX5_fact_99 : decode cX5_fact 99 = .ok (.aload_n 0, 1) := by decide +kernel
theorem dX5_fact_100 : decode cX5_fact 100 = .ok (.bipush 93, 2) := by decide +kernel
theorem dX5_fact_102 : decode cX5_fact 102 = .ok (.invokevirtual 66, 3) := by decide +kernel
theorem dX5_fact_105 : decode cX5_fact 105 = .ok (.ifCond .eq 7, 3) := by decide +kernel
theorem dX5_fact_108 : decode cX5_fact 108 = .ok (.iconst 1, 1) := by decide +kernel
theorem dX5_fact_109 : decode cX5_fact 109 = .ok (.goto 4, 3) := by decide +kernel
theorem dX5_fact_112 : decode cX5_fact 112 = .ok (.iconst 0, 1) := by decide +kernel
theorem dX5_fact_113 : decode cX5_fact 113 = .ok (.istore_n 3, 1) := by decide +kernel
theorem dX5_fact_114 : decode cX5_fact 114 = .ok (.goto 52, 3) := by decide +kernel
theorem dX5_fact_117 : decode cX5_fact 117 = .ok (.aload_n 0, 1) := by decide +kernel
theorem dX5_fact_118 : decode cX5_fact 118 = .ok (.iload_n 1, 1) := by decide +kernel
theorem dX5_fact_119 : decode cX5_fact 119 = .ok (.invokevirtual 151, 3) := by decide +kernel
theorem dX5_fact_122 : decode cX5_fact 122 = .ok (.ifCond .eq 10, 3) := by decide +kernel
theorem dX5_fact_125 : decode cX5_fact 125 = .ok (.aload_n 0, 1) := by decide +kernel
theorem dX5_fact_126 : decode cX5_fact 126 = .ok (.invokevirtual 186, 3) := by decide +kernel
theorem dX5_fact_129 : decode cX5_fact 129 = .ok (.goto 4, 3) := by decide +kernel
theorem dX5_fact_132 : decode cX5_fact 132 = .ok (.iconst 0, 1) := by decide +kernel
theorem dX5_fact_133 : decode cX5_fact 133 = .ok (.istore 4, 2) := by decide +kernel
theorem dX5_fact_135 : decode cX5_fact 135 = .ok (.iload 4, 2) := by decide +kernel
theorem dX5_fact_137 : decode cX5_fact 137 = .ok (.ifCond .eq 27, 3) := by decide +kernel
theorem dX5_fact_140 : decode cX5_fact 140 = .ok (.aload_n 0, 1) := by decide +kernel
theorem dX5_fact_141 : decode cX5_fact 141 = .ok (.iload_n 1, 1) := by decide +kernel
theorem dX5_fact_142 : decode cX5_fact 142 = .ok (.invokevirtual 151, 3) := by decide +kernel
theorem dX5_fact_145 : decode cX5_fact 145 = .ok (.ifCond .eq 19, 3) := by decide +kernel
theorem dX5_fact_148 : decode cX5_fact 148 = .ok (.aload_n 0, 1) := by decide +kernel
theorem dX5_fact_149 : decode cX5_fact 149 = .ok (.getfield 15, 3) := by decide +kernel
theorem dX5_fact_152 : decode cX5_fact 152 = .ok (.iload 4, 2) := by decide +kernel
theorem dX5_fact_154 : decode cX5_fact 154 = .ok (.invokevirtual 174, 3) := by decide +kernel
theorem dX5_fact_157 : decode cX5_fact 157 = .ok (.ifCond .eq 7, 3) := by decide +kernel
theorem dX5_fact_160 : decode cX5_fact 160 = .ok (.iconst 1, 1) := by decide +kernel
theorem dX5_fact_161 : decode cX5_fact 161 = .ok (.goto 4, 3) := by decide +kernel
theorem dX5_fact_164 : decode cX5_fact 164 = .ok (.iconst 0, 1) := by decide +kernel
theorem dX5_fact_165 : decode cX5_fact 165 = .ok (.istore_n 3, 1) := by decide +kernel
theorem dX5_fact_166 : decode cX5_fact 166 = .ok (.iload_n 3, 1) := by decide +kernel
theorem dX5_fact_167 : decode cX5_fact 167 = .ok (.ifCond .eq 23, 3) := by decide +kernel
theorem dX5_fact_170 : decode cX5_fact 170 = .ok (.iload_n 2, 1) := by decide +kernel
theorem dX5_fact_171 : decode cX5_fact 171 = .ok (.ifCond .eq 15, 3) := by decide +kernel
theorem dX5_fact_174 : decode cX5_fact 174 = .ok (.aload_n 0, 1) := by decide +kernel
theorem dX5_fact_175 : decode cX5_fact 175 = .ok (.getfield 15, 3) := by decide +kernel
theorem dX5_fact_178 : decode cX5_fact 178 = .ok (.bipush (-6), 2) := by decide +kernel
theorem dX5_fact_180 : decode cX5_fact 180 = .ok (.invokevirtual 174, 3) := by decide +kernel
theorem dX5_fact_183 : decode cX5_fact 183 = .ok (.ifCond .eq 7, 3) := by decide +kernel
theorem dX5_fact_186 : decode cX5_fact 186 = .ok (.iconst 1, 1) := by decide +kernel
theorem dX5_fact_187 : decode cX5_fact 187 = .ok (.goto 4, 3) := by decide +kernel
theorem dX5_fact_190 : decode cX5_fact 190 = .ok (.iconst 0, 1) := by decide +kernel
theorem dX5_fact_191 : decode cX5_fact 191 = .ok (.ireturn, 1) := by decide +kernel
theorem dX5_bracket_0 : decode cX5_bracket 0 = .ok (.iload_n 1, 1) := by decide +kernel
theorem dX5_bracket_1 : decode cX5_bracket 1 = .ok (.bipush 8, 2) := by decide +kernel
theorem dX5_bracket_3 : decode cX5_bracket 3 = .ok (.if_icmp .lt 12, 3) := by decide +kernel
theorem dX5_bracket_6 : decode cX5_bracket 6 = .ok (.aload_n 0, 1) := by decide +kernel
theorem dX5_bracket_7 : decode cX5_bracket 7 = .ok (.getfield 9, 3) := by decide +kernel
theorem dX5_bracket_10 : decode cX5_bracket 10 = .ok (.iconst 5, 1) := by decide +kernel
theorem dX5_bracket_11 : decode cX5_bracket 11 = .ok (.invokevirtual 62, 3) := by decide +kernel
theorem dX5_bracket_14 : decode cX5_bracket 14 = .ok (.ireturn, 1) := by decide +kernel
theorem dX5_bracket_15 : decode cX5_bracket 15 = .ok (.aload_n 0, 1) := by decide +kernel
theorem dX5_bracket_16 : decode cX5_bracket 16 = .ok (.getfield 9, 3) := by decide +kernel
theorem dX5_bracket_19 : decode cX5_bracket 19 = .ok (.invokevirtual 72, 3) := by decide +kernel
theorem dX5_bracket_22 : decode cX5_bracket 22 = .ok (.iconst 1, 1) := by decide +kernel
theorem dX5_bracket_23 : decode cX5_bracket 23 = .ok (.ireturn, 1) := by decide +kernel
theorem dX5_comparisonSign_0 : decode cX5_comparisonSign 0 = .ok (.iconst 0, 1) := by decide +kernel
theorem dX5_comparisonSign_1 : decode cX5_comparisonSign 1 = .ok (.istore_n 1, 1) := by decide +kernel
theorem dX5_comparisonSign_2 : decode cX5_comparisonSign 2 = .ok (.aload_n 0, 1) := by decide +kernel
theorem dX5_comparisonSign_3 : decode cX5_comparisonSign 3 = .ok (.getfield 9, 3) := by decide +kernel
theorem dX5_comparisonSign_6 : decode cX5_comparisonSign 6 = .ok (.invokevirtual 28, 3) := by decide +kernel
theorem dX5_comparisonSign_9 : decode cX5_comparisonSign 9 = .ok (.tableswitch 45 60 62 #[27, 39, 33], 27) := by decide +kernel
theorem dX5_comparisonSign_36 : decode cX5_comparisonSign 36 = .ok (.bipush (-9), 2) := by decide +kernel
theorem dX5_comparisonSign_38 : decode cX5_comparisonSign 38 = .ok (.istore_n 1, 1) := by decide +kernel
theorem dX5_comparisonSign_39 : decode cX5_comparisonSign 39 = .ok (.goto 24, 3) := by decide +kernel
theorem dX5_comparisonSign_42 : decode cX5_comparisonSign 42 = .ok (.bipush (-10), 2) := by decide +kernel
theorem dX5_comparisonSign_44 : decode cX5_comparisonSign 44 = .ok (.istore_n 1, 1) := by decide +kernel
theorem dX5_comparisonSign_45 : decode cX5_comparisonSign 45 = .ok (.goto 18, 3) := by decide +kernel
theorem dX5_comparisonSign_48 : decode cX5_comparisonSign 48 = .ok (.bipush (-11), 2) := by decide +kernel
theorem dX5_comparisonSign_50 : decode cX5_comparisonSign 50 = .ok (.istore_n 1, 1) := by decide +kernel
theorem dX5_comparisonSign_51 : decode cX5_comparisonSign 51 = .ok (.goto 12, 3) := by decide +kernel
theorem dX5_comparisonSign_54 : decode cX5_comparisonSign 54 = .ok (.aload_n 0, 1) := by decide +kernel
theorem dX5_comparisonSign_55 : decode cX5_comparisonSign 55 = .ok (.getfield 9, 3) := by decide +kernel
theorem dX5_comparisonSign_58 : decode cX5_comparisonSign 58 = .ok (.iconst 1, 1) := by decide +kernel
theorem dX5_comparisonSign_59 : decode cX5_comparisonSign 59 = .ok (.invokevirtual 62, 3) := by decide +kernel
theorem dX5_comparisonSign_62 : decode cX5_comparisonSign 62 = .ok (.pop, 1) := by decide +kernel
theorem dX5_comparisonSign_63 : decode cX5_comparisonSign 63 = .ok (.aload_n 0, 1) := by decide +kernel
theorem dX5_comparisonSign_64 : decode cX5_comparisonSign 64 = .ok (.getfield 9, 3) := by decide +kernel
theorem dX5_comparisonSign_67 : decode cX5_comparisonSign 67 = .ok (.invokevirtual 72, 3) := by decide +kernel
theorem dX5_comparisonSign_70 : decode cX5_comparisonSign 70 = .ok (.iload_n 1, 1) := by decide +kernel
theorem dX5_comparisonSign_71 : decode cX5_comparisonSign 71 = .ok (.ireturn, 1) := by decide +kernel
theorem dX5_sum_0 : decode cX5_sum 0 = .ok (.aload_n 0, 1) := by decide +kernel
theorem dX5_sum_1 : decode cX5_sum 1 = .ok (.iload_n 1, 1) := by decide +kernel
theorem dX5_sum_2 : decode cX5_sum 2 = .ok (.invokevirtual 189, 3) := by decide +kernel
theorem dX5_sum_5 : decode cX5_sum 5 = .ok (.istore_n 2, 1) := by decide +kernel
theorem dX5_sum_6 : decode cX5_sum 6 = .ok (.iconst 0, 1) := by decide +kernel
theorem dX5_sum_7 : decode cX5_sum 7 = .ok (.istore_n 3, 1) := by decide +kernel
theorem dX5_sum_8 : decode cX5_sum 8 = .ok (.iload_n 3, 1) := by decide +kernel
theorem dX5_sum_9 : decode cX5_sum 9 = .ok (.sipush 1600, 3) := by decide +kernel
theorem dX5_sum_12 : decode cX5_sum 12 = .ok (.if_icmp .ge 99, 3) := by decide +kernel
theorem dX5_sum_15 : decode cX5_sum 15 = .ok (.iload_n 2, 1) := by decide +kernel
theorem dX5_sum_16 : decode cX5_sum 16 = .ok (.ifCond .eq 95, 3) := by decide +kernel
theorem dX5_sum_19 : decode cX5_sum 19 = .ok (.iconst 0, 1) := by decide +kernel
theorem dX5_sum_20 : decode cX5_sum 20 = .ok (.istore 4, 2) := by decide +kernel
theorem dX5_sum_22 : decode cX5_sum 22 = .ok (.aload_n 0, 1) := by decide +kernel
theorem dX5_sum_23 : decode cX5_sum 23 = .ok (.getfield 9, 3) := by decide +kernel
theorem dX5_sum_26 : decode cX5_sum 26 = .ok (.invokevirtual 28, 3) := by decide +kernel
theorem dX5_sum_29 : decode cX5_sum 29 = .ok (.lookupswitch 41 #[(43, 27), (45, 34)], 27) := by decide +kernel
theorem dX5_sum_56 : decode cX5_sum 56 = .ok (.bipush (-12), 2) := by decide +kernel
theorem dX5_sum_58 : decode cX5_sum 58 = .ok (.istore 4, 2) := by decide +kernel
theorem dX5_sum_60 : decode cX5_sum 60 = .ok (.goto 12, 3) := by decide +kernel
theorem dX5_sum_63 : decode cX5_sum 63 = .ok (.bipush (-13), 2) := by decide +kernel
theorem dX5_sum_65 : decode cX5_sum 65 = .ok (.istore 4, 2) := by decide +kernel
theorem dX5_sum_67 : decode cX5_sum 67 = .ok (.goto 5, 3) := by decide +kernel
theorem dX5_sum_70 : decode cX5_sum 70 = .ok (.iconst 1, 1) := by decide +kernel
theorem dX5_sum_71 : decode cX5_sum 71 = .ok (.ireturn, 1) := by decide +kernel
theorem dX5_sum_72 : decode cX5_sum 72 = .ok (.aload_n 0, 1) := by decide +kernel
theorem dX5_sum_73 : decode cX5_sum 73 = .ok (.getfield 9, 3) := by decide +kernel
theorem dX5_sum_76 : decode cX5_sum 76 = .ok (.invokevirtual 72, 3) := by decide +kernel
theorem dX5_sum_79 : decode cX5_sum 79 = .ok (.aload_n 0, 1) := by decide +kernel
theorem dX5_sum_80 : decode cX5_sum 80 = .ok (.iload_n 1, 1) := by decide +kernel
theorem dX5_sum_81 : decode cX5_sum 81 = .ok (.invokevirtual 189, 3) := by decide +kernel
theorem dX5_sum_84 : decode cX5_sum 84 = .ok (.ifCond .eq 19, 3) := by decide +kernel
theorem dX5_sum_87 : decode cX5_sum 87 = .ok (.aload_n 0, 1) := by decide +kernel
theorem dX5_sum_88 : decode cX5_sum 88 = .ok (.getfield 15, 3) := by decide +kernel
theorem dX5_sum_91 : decode cX5_sum 91 = .ok (.iload 4, 2) := by decide +kernel
theorem dX5_sum_93 : decode cX5_sum 93 = .ok (.invokevirtual 174, 3) := by decide +kernel
theorem dX5_sum_96 : decode cX5_sum 96 = .ok (.ifCond .eq 7, 3) := by decide +kernel
theorem dX5_sum_99 : decode cX5_sum 99 = .ok (.iconst 1, 1) := by decide +kernel
theorem dX5_sum_100 : decode cX5_sum 100 = .ok (.goto 4, 3) := by decide +kernel
theorem dX5_sum_103 : decode cX5_sum 103 = .ok (.iconst 0, 1) := by decide +kernel
theorem dX5_sum_104 : decode cX5_sum 104 = .ok (.istore_n 2, 1) := by decide +kernel
theorem dX5_sum_105 : decode cX5_sum 105 = .ok (.iinc 3 1, 3) := by decide +kernel
theorem dX5_sum_108 : decode cX5_sum 108 = .ok (.goto (-100), 3) := by decide +kernel
theorem dX5_sum_111 : decode cX5_sum 111 = .ok (.iload_n 2, 1) := by decide +kernel
theorem dX5_sum_112 : decode cX5_sum 112 = .ok (.ireturn, 1) := by decide +kernel
theorem dX5_product_0 : decode cX5_product 0 = .ok (.aload_n 0, 1) := by decide +kernel
theorem dX5_product_1 : decode cX5_product 1 = .ok (.iload_n 1, 1) := by decide +kernel
theorem dX5_product_2 : decode cX5_product 2 = .ok (.invokevirtual 192, 3) := by decide +kernel
theorem dX5_product_5 : decode cX5_product 5 = .ok (.istore_n 2, 1) := by decide +kernel
theorem dX5_product_6 : decode cX5_product 6 = .ok (.iconst 0, 1) := by decide +kernel
theorem dX5_product_7 : decode cX5_product 7 = .ok (.istore_n 3, 1) := by decide +kernel
theorem dX5_product_8 : decode cX5_product 8 = .ok (.iload_n 3, 1) := by decide +kernel
theorem dX5_product_9 : decode cX5_product 9 = .ok (.sipush 1600, 3) := by decide +kernel
theorem dX5_product_12 : decode cX5_product 12 = .ok (.if_icmp .ge 114, 3) := by decide +kernel
theorem dX5_product_15 : decode cX5_product 15 = .ok (.iload_n 2, 1) := by decide +kernel
theorem dX5_product_16 : decode cX5_product 16 = .ok (.ifCond .eq 110, 3) := by decide +kernel
theorem dX5_product_19 : decode cX5_product 19 = .ok (.iconst 0, 1) := by decide +kernel
theorem dX5_product_20 : decode cX5_product 20 = .ok (.istore 4, 2) := by decide +kernel
theorem dX5_product_22 : decode cX5_product 22 = .ok (.aload_n 0, 1) := by decide +kernel
theorem dX5_product_23 : decode cX5_product 23 = .ok (.getfield 9, 3) := by decide +kernel
theorem dX5_product_26 : decode cX5_product 26 = .ok (.invokevirtual 28, 3) := by decide +kernel
theorem dX5_product_29 : decode cX5_product 29 = .ok (.lookupswitch 56 #[(37, 49), (42, 35), (47, 42)], 35) := by decide +kernel
theorem dX5_product_64 : decode cX5_product 64 = .ok (.bipush (-14), 2) := by decide +kernel
theorem dX5_product_66 : decode cX5_product 66 = .ok (.istore 4, 2) := by decide +kernel
theorem dX5_product_68 : decode cX5_product 68 = .ok (.goto 19, 3) := by decide +kernel
theorem dX5_product_71 : decode cX5_product 71 = .ok (.bipush (-15), 2) := by decide +kernel
theorem dX5_product_73 : decode cX5_product 73 = .ok (.istore 4, 2) := by decide +kernel
theorem dX5_product_75 : decode cX5_product 75 = .ok (.goto 12, 3) := by decide +kernel
theorem dX5_product_78 : decode cX5_product 78 = .ok (.bipush (-16), 2) := by decide +kernel
theorem dX5_product_80 : decode cX5_product 80 = .ok (.istore 4, 2) := by decide +kernel
theorem dX5_product_82 : decode cX5_product 82 = .ok (.goto 5, 3) := by decide +kernel
theorem dX5_product_85 : decode cX5_product 85 = .ok (.iconst 1, 1) := by decide +kernel
theorem dX5_product_86 : decode cX5_product 86 = .ok (.ireturn, 1) := by decide +kernel
theorem dX5_product_87 : decode cX5_product 87 = .ok (.aload_n 0, 1) := by decide +kernel
theorem dX5_product_88 : decode cX5_product 88 = .ok (.getfield 9, 3) := by decide +kernel
theorem dX5_product_91 : decode cX5_product 91 = .ok (.invokevirtual 72, 3) := by decide +kernel
theorem dX5_product_94 : decode cX5_product 94 = .ok (.aload_n 0, 1) := by decide +kernel
theorem dX5_product_95 : decode cX5_product 95 = .ok (.iload_n 1, 1) := by decide +kernel
theorem dX5_product_96 : decode cX5_product 96 = .ok (.invokevirtual 192, 3) := by decide +kernel
theorem dX5_product_99 : decode cX5_product 99 = .ok (.ifCond .eq 19, 3) := by decide +kernel
theorem dX5_product_102 : decode cX5_product 102 = .ok (.aload_n 0, 1) := by decide +kernel
theorem dX5_product_103 : decode cX5_product 103 = .ok (.getfield 15, 3) := by decide +kernel
theorem dX5_product_106 : decode cX5_product 106 = .ok (.iload 4, 2) := by decide +kernel
theorem dX5_product_108 : decode cX5_product 108 = .ok (.invokevirtual 174, 3) := by decide +kernel
theorem dX5_product_111 : decode cX5_product 111 = .ok (.ifCond .eq 7, 3) := by decide +kernel
theorem dX5_product_114 : decode cX5_product 114 = .ok (.iconst 1, 1) := by decide +kernel
theorem dX5_product_115 : decode cX5_product 115 = .ok (.goto 4, 3) := by decide +kernel
theorem dX5_product_118 : decode cX5_product 118 = .ok (.iconst 0, 1) := by decide +kernel
theorem dX5_product_119 : decode cX5_product 119 = .ok (.istore_n 2, 1) := by decide +kernel
theorem dX5_product_120 : decode cX5_product 120 = .ok (.iinc 3 1, 3) := by decide +kernel
theorem dX5_product_123 : decode cX5_product 123 = .ok (.goto (-115), 3) := by decide +kernel
theorem dX5_product_126 : decode cX5_product 126 = .ok (.iload_n 2, 1) := by decide +kernel
theorem dX5_product_127 : decode cX5_product 127 = .ok (.ireturn, 1) := by decide +kernel
theorem dX5_part_0 : decode cX5_part 0 = .ok (.aload_n 0, 1) := by decide +kernel
theorem dX5_part_1 : decode cX5_part 1 = .ok (.getfield 9, 3) := by decide +kernel
theorem dX5_part_4 : decode cX5_part 4 = .ok (.invokevirtual 28, 3) := by decide +kernel
theorem dX5_part_7 : decode cX5_part 7 = .ok (.lookupswitch 176 #[(40, 127), (301, 81), (401, 93), (406, 113), (418, 99), (419, 106), (420, 120), (421, 160), (422, 168)], 81) := by decide +kernel
theorem dX5_part_88 : decode cX5_part 88 = .ok (.aload_n 0, 1) := by decide +kernel
theorem dX5_part_89 : decode cX5_part 89 = .ok (.aload_n 0, 1) := by decide +kernel
theorem dX5_part_90 : decode cX5_part 90 = .ok (.getfield 9, 3) := by decide +kernel
theorem dX5_part_93 : decode cX5_part 93 = .ok (.getfield 116, 3) := by decide +kernel
theorem dX5_part_96 : decode cX5_part 96 = .ok (.invokevirtual 180, 3) := by decide +kernel
theorem dX5_part_99 : decode cX5_part 99 = .ok (.ireturn, 1) := by decide +kernel
theorem dX5_part_100 : decode cX5_part 100 = .ok (.aload_n 0, 1) := by decide +kernel
theorem dX5_part_101 : decode cX5_part 101 = .ok (.iconst (-1), 1) := by decide +kernel
theorem dX5_part_102 : decode cX5_part 102 = .ok (.invokevirtual 180, 3) := by decide +kernel
theorem dX5_part_105 : decode cX5_part 105 = .ok (.ireturn, 1) := by decide +kernel
theorem dX5_part_106 : decode cX5_part 106 = .ok (.aload_n 0, 1) := by decide +kernel
theorem dX5_part_107 : decode cX5_part 107 = .ok (.bipush (-2), 2) := by decide +kernel
theorem dX5_part_109 : decode cX5_part 109 = .ok (.invokevirtual 180, 3) := by decide +kernel
theorem dX5_part_112 : decode cX5_part 112 = .ok (.ireturn, 1) := by decide +kernel
theorem dX5_part_113 : decode cX5_part 113 = .ok (.aload_n 0, 1) := by decide +kernel
theorem dX5_part_114 : decode cX5_part 114 = .ok (.bipush (-3), 2) := by decide +kernel
theorem dX5_part_116 : decode cX5_part 116 = .ok (.invokevirtual 180, 3) := by decide +kernel
theorem dX5_part_119 : decode cX5_part 119 = .ok (.ireturn, 1) := by decide +kernel
theorem dX5_part_120 : decode cX5_part 120 = .ok (.aload_n 0, 1) := by decide +kernel
theorem dX5_part_121 : decode cX5_part 121 = .ok (.bipush (-4), 2) := by decide +kernel
theorem dX5_part_123 : decode cX5_part 123 = .ok (.invokevirtual 180, 3) := by decide +kernel
theorem dX5_part_126 : decode cX5_part 126 = .ok (.ireturn, 1) := by decide +kernel
theorem dX5_part_127 : decode cX5_part 127 = .ok (.aload_n 0, 1) := by decide +kernel
theorem dX5_part_128 : decode cX5_part 128 = .ok (.bipush (-5), 2) := by decide +kernel
theorem dX5_part_130 : decode cX5_part 130 = .ok (.invokevirtual 180, 3) := by decide +kernel
theorem dX5_part_133 : decode cX5_part 133 = .ok (.ireturn, 1) := by decide +kernel
theorem dX5_part_134 : decode cX5_part 134 = .ok (.aload_n 0, 1) := by decide +kernel
theorem dX5_part_135 : decode cX5_part 135 = .ok (.iload_n 1, 1) := by decide +kernel
theorem dX5_part_136 : decode cX5_part 136 = .ok (.invokevirtual 183, 3) := by decide +kernel
theorem dX5_part_139 : decode cX5_part 139 = .ok (.ifCond .eq 26, 3) := by decide +kernel
theorem dX5_part_142 : decode cX5_part 142 = .ok (.aload_n 0, 1) := by decide +kernel
theorem dX5_part_143 : decode cX5_part 143 = .ok (.iload_n 1, 1) := by decide +kernel
theorem dX5_part_144 : decode cX5_part 144 = .ok (.iconst 1, 1) := by decide +kernel
theorem dX5_part_145 : decode cX5_part 145 = .ok (.iadd, 1) := by decide +kernel
theorem dX5_part_146 : decode cX5_part 146 = .ok (.invokevirtual 151, 3) := by decide +kernel
theorem dX5_part_149 : decode cX5_part 149 = .ok (.ifCond .eq 16, 3) := by decide +kernel
theorem dX5_part_152 : decode cX5_part 152 = .ok (.aload_n 0, 1) := by decide +kernel
theorem dX5_part_153 : decode cX5_part 153 = .ok (.bipush 41, 2) := by decide +kernel
theorem dX5_part_155 : decode cX5_part 155 = .ok (.invokevirtual 66, 3) := by decide +kernel
theorem dX5_part_158 : decode cX5_part 158 = .ok (.ifCond .eq 7, 3) := by decide +kernel
theorem dX5_part_161 : decode cX5_part 161 = .ok (.iconst 1, 1) := by decide +kernel
theorem dX5_part_162 : decode cX5_part 162 = .ok (.goto 4, 3) := by decide +kernel
theorem dX5_part_165 : decode cX5_part 165 = .ok (.iconst 0, 1) := by decide +kernel
theorem dX5_part_166 : decode cX5_part 166 = .ok (.ireturn, 1) := by decide +kernel
theorem dX5_part_167 : decode cX5_part 167 = .ok (.aload_n 0, 1) := by decide +kernel
theorem dX5_part_168 : decode cX5_part 168 = .ok (.iload_n 1, 1) := by decide +kernel
theorem dX5_part_169 : decode cX5_part 169 = .ok (.bipush (-17), 2) := by decide +kernel
theorem dX5_part_171 : decode cX5_part 171 = .ok (.invokevirtual 195, 3) := by decide +kernel
theorem dX5_part_174 : decode cX5_part 174 = .ok (.ireturn, 1) := by decide +kernel
theorem dX5_part_175 : decode cX5_part 175 = .ok (.aload_n 0, 1) := by decide +kernel
theorem dX5_part_176 : decode cX5_part 176 = .ok (.iload_n 1, 1) := by decide +kernel
theorem dX5_part_177 : decode cX5_part 177 = .ok (.bipush (-18), 2) := by decide +kernel
theorem dX5_part_179 : decode cX5_part 179 = .ok (.invokevirtual 195, 3) := by decide +kernel
theorem dX5_part_182 : decode cX5_part 182 = .ok (.ireturn, 1) := by decide +kernel
theorem dX5_part_183 : decode cX5_part 183 = .ok (.aload_n 0, 1) := by decide +kernel
theorem dX5_part_184 : decode cX5_part 184 = .ok (.getfield 9, 3) := by decide +kernel
theorem dX5_part_187 : decode cX5_part 187 = .ok (.iconst 1, 1) := by decide +kernel
theorem dX5_part_188 : decode cX5_part 188 = .ok (.invokevirtual 62, 3) := by decide +kernel
theorem dX5_part_191 : decode cX5_part 191 = .ok (.ireturn, 1) := by decide +kernel
theorem dX5_step_0 : decode cX5_step 0 = .ok (.aload_n 0, 1) := by decide +kernel
theorem dX5_step_1 : decode cX5_step 1 = .ok (.getfield 9, 3) := by decide +kernel
theorem dX5_step_4 : decode cX5_step 4 = .ok (.invokevirtual 72, 3) := by decide +kernel
theorem dX5_step_7 : decode cX5_step 7 = .ok (.aload_n 0, 1) := by decide +kernel
theorem dX5_step_8 : decode cX5_step 8 = .ok (.getfield 15, 3) := by decide +kernel
theorem dX5_step_11 : decode cX5_step 11 = .ok (.iload_n 1, 1) := by decide +kernel
theorem dX5_step_12 : decode cX5_step 12 = .ok (.invokevirtual 174, 3) := by decide +kernel
theorem dX5_step_15 : decode cX5_step 15 = .ok (.ireturn, 1) := by decide +kernel
theorem dX5_choice_0 : decode cX5_choice 0 = .ok (.aload_n 0, 1) := by decide +kernel
theorem dX5_choice_1 : decode cX5_choice 1 = .ok (.getfield 9, 3) := by decide +kernel
theorem dX5_choice_4 : decode cX5_choice 4 = .ok (.invokevirtual 72, 3) := by decide +kernel
theorem dX5_choice_7 : decode cX5_choice 7 = .ok (.aload_n 0, 1) := by decide +kernel
theorem dX5_choice_8 : decode cX5_choice 8 = .ok (.getfield 9, 3) := by decide +kernel
theorem dX5_choice_11 : decode cX5_choice 11 = .ok (.invokevirtual 28, 3) := by decide +kernel
theorem dX5_choice_14 : decode cX5_choice 14 = .ok (.bipush 40, 2) := by decide +kernel
theorem dX5_choice_16 : decode cX5_choice 16 = .ok (.if_icmp .eq 12, 3) := by decide +kernel
theorem dX5_choice_19 : decode cX5_choice 19 = .ok (.aload_n 0, 1) := by decide +kernel
theorem dX5_choice_20 : decode cX5_choice 20 = .ok (.getfield 9, 3) := by decide +kernel
theorem dX5_choice_23 : decode cX5_choice 23 = .ok (.iconst 1, 1) := by decide +kernel
theorem dX5_choice_24 : decode cX5_choice 24 = .ok (.invokevirtual 62, 3) := by decide +kernel
theorem dX5_choice_27 : decode cX5_choice 27 = .ok (.ireturn, 1) := by decide +kernel
theorem dX5_choice_28 : decode cX5_choice 28 = .ok (.aload_n 0, 1) := by decide +kernel
theorem dX5_choice_29 : decode cX5_choice 29 = .ok (.iload_n 1, 1) := by decide +kernel
theorem dX5_choice_30 : decode cX5_choice 30 = .ok (.invokevirtual 183, 3) := by decide +kernel
theorem dX5_choice_33 : decode cX5_choice 33 = .ok (.ifCond .eq 56, 3) := by decide +kernel
theorem dX5_choice_36 : decode cX5_choice 36 = .ok (.aload_n 0, 1) := by decide +kernel
theorem dX5_choice_37 : decode cX5_choice 37 = .ok (.iload_n 1, 1) := by decide +kernel
theorem dX5_choice_38 : decode cX5_choice 38 = .ok (.iconst 1, 1) := by decide +kernel
theorem dX5_choice_39 : decode cX5_choice 39 = .ok (.iadd, 1) := by decide +kernel
theorem dX5_choice_40 : decode cX5_choice 40 = .ok (.invokevirtual 151, 3) := by decide +kernel
theorem dX5_choice_43 : decode cX5_choice 43 = .ok (.ifCond .eq 46, 3) := by decide +kernel
theorem dX5_choice_46 : decode cX5_choice 46 = .ok (.aload_n 0, 1) := by decide +kernel
theorem dX5_choice_47 : decode cX5_choice 47 = .ok (.bipush 44, 2) := by decide +kernel
theorem dX5_choice_49 : decode cX5_choice 49 = .ok (.invokevirtual 66, 3) := by decide +kernel
theorem dX5_choice_52 : decode cX5_choice 52 = .ok (.ifCond .eq 37, 3) := by decide +kernel
theorem dX5_choice_55 : decode cX5_choice 55 = .ok (.aload_n 0, 1) := by decide +kernel
theorem dX5_choice_56 : decode cX5_choice 56 = .ok (.iload_n 1, 1) := by decide +kernel
theorem dX5_choice_57 : decode cX5_choice 57 = .ok (.iconst 1, 1) := by decide +kernel
theorem dX5_choice_58 : decode cX5_choice 58 = .ok (.iadd, 1) := by decide +kernel
theorem dX5_choice_59 : decode cX5_choice 59 = .ok (.invokevirtual 151, 3) := by decide +kernel
theorem dX5_choice_62 : decode cX5_choice 62 = .ok (.ifCond .eq 27, 3) := by decide +kernel
theorem dX5_choice_65 : decode cX5_choice 65 = .ok (.aload_n 0, 1) := by decide +kernel
theorem dX5_choice_66 : decode cX5_choice 66 = .ok (.bipush 41, 2) := by decide +kernel
theorem dX5_choice_68 : decode cX5_choice 68 = .ok (.invokevirtual 66, 3) := by decide +kernel
theorem dX5_choice_71 : decode cX5_choice 71 = .ok (.ifCond .eq 18, 3) := by decide +kernel
theorem dX5_choice_74 : decode cX5_choice 74 = .ok (.aload_n 0, 1) := by decide +kernel
theorem dX5_choice_75 : decode cX5_choice 75 = .ok (.getfield 15, 3) := by decide +kernel
theorem dX5_choice_78 : decode cX5_choice 78 = .ok (.iload_n 2, 1) := by decide +kernel
theorem dX5_choice_79 : decode cX5_choice 79 = .ok (.invokevirtual 174, 3) := by decide +kernel
theorem dX5_choice_82 : decode cX5_choice 82 = .ok (.ifCond .eq 7, 3) := by decide +kernel
theorem dX5_choice_85 : decode cX5_choice 85 = .ok (.iconst 1, 1) := by decide +kernel
theorem dX5_choice_86 : decode cX5_choice 86 = .ok (.goto 4, 3) := by decide +kernel
theorem dX5_choice_89 : decode cX5_choice 89 = .ok (.iconst 0, 1) := by decide +kernel
theorem dX5_choice_90 : decode cX5_choice 90 = .ok (.ireturn, 1) := by decide +kernel
theorem dX6_start_0 : decode cX6_start 0 = .ok (.aload_n 0, 1) := by decide +kernel
theorem dX6_start_1 : decode cX6_start 1 = .ok (.iconst 0, 1) := by decide +kernel
theorem dX6_start_2 : decode cX6_start 2 = .ok (.iload_n 1, 1) := by decide +kernel
theorem dX6_start_3 : decode cX6_start 3 = .ok (.aload_n 0, 1) := by decide +kernel
theorem dX6_start_4 : decode cX6_start 4 = .ok (.getfield 11, 3) := by decide +kernel
theorem dX6_start_7 : decode cX6_start 7 = .ok (.arraylength, 1) := by decide +kernel
theorem dX6_start_8 : decode cX6_start 8 = .ok (.invokestatic 33, 3) := by decide +kernel
theorem dX6_start_11 : decode cX6_start 11 = .ok (.invokestatic 39, 3) := by decide +kernel
theorem dX6_start_14 : decode cX6_start 14 = .ok (.putfield 42, 3) := by decide +kernel
theorem dX6_start_17 : decode cX6_start 17 = .ok (.aload_n 0, 1) := by decide +kernel
theorem dX6_start_18 : decode cX6_start 18 = .ok (.iconst 0, 1) := by decide +kernel
theorem dX6_start_19 : decode cX6_start 19 = .ok (.putfield 45, 3) := by decide +kernel
theorem dX6_start_22 : decode cX6_start 22 = .ok (.aload_n 0, 1) := by decide +kernel
theorem dX6_start_23 : decode cX6_start 23 = .ok (.iconst 0, 1) := by decide +kernel
theorem dX6_start_24 : decode cX6_start 24 = .ok (.putfield 48, 3) := by decide +kernel
theorem dX6_start_27 : decode cX6_start 27 = .ok (.aload_n 0, 1) := by decide +kernel
theorem dX6_start_28 : decode cX6_start 28 = .ok (.iconst 0, 1) := by decide +kernel
theorem dX6_start_29 : decode cX6_start 29 = .ok (.putfield 51, 3) := by decide +kernel
theorem dX6_start_32 : decode cX6_start 32 = .ok (.aload_n 0, 1) := by decide +kernel
theorem dX6_start_33 : decode cX6_start 33 = .ok (.iconst 0, 1) := by decide +kernel
theorem dX6_start_34 : decode cX6_start 34 = .ok (.putfield 55, 3) := by decide +kernel
theorem dX6_start_37 : decode cX6_start 37 = .ok (.aload_n 0, 1) := by decide +kernel
theorem dX6_start_38 : decode cX6_start 38 = .ok (.iconst (-1), 1) := by decide +kernel
theorem dX6_start_39 : decode cX6_start 39 = .ok (.putfield 58, 3) := by decide +kernel
theorem dX6_start_42 : decode cX6_start 42 = .ok (.return_, 1) := by decide +kernel
theorem dX6_fail_0 : decode cX6_fail 0 = .ok (.aload_n 0, 1) := by decide +kernel
theorem dX6_fail_1 : decode cX6_fail 1 = .ok (.getfield 55, 3) := by decide +kernel
theorem dX6_fail_4 : decode cX6_fail 4 = .ok (.ifCond .ne 13, 3) := by decide +kernel
theorem dX6_fail_7 : decode cX6_fail 7 = .ok (.aload_n 0, 1) := by decide +kernel
theorem dX6_fail_8 : decode cX6_fail 8 = .ok (.iload_n 1, 1) := by decide +kernel
theorem dX6_fail_9 : decode cX6_fail 9 = .ok (.putfield 55, 3) := by decide +kernel
theorem dX6_fail_12 : decode cX6_fail 12 = .ok (.aload_n 0, 1) := by decide +kernel
theorem dX6_fail_13 : decode cX6_fail 13 = .ok (.iload_n 2, 1) := by decide +kernel
theorem dX6_fail_14 : decode cX6_fail 14 = .ok (.putfield 58, 3) := by decide +kernel
theorem dX6_fail_17 : decode cX6_fail 17 = .ok (.iconst 0, 1) := by decide +kernel
theorem dX6_fail_18 : decode cX6_fail 18 = .ok (.ireturn, 1) := by decide +kernel
theorem dX6_failHere_0 : decode cX6_failHere 0 = .ok (.aload_n 0, 1) := by decide +kernel
theorem dX6_failHere_1 : decode cX6_failHere 1 = .ok (.iload_n 1, 1) := by decide +kernel
theorem dX6_failHere_2 : decode cX6_failHere 2 = .ok (.aload_n 0, 1) := by decide +kernel
theorem dX6_failHere_3 : decode cX6_failHere 3 = .ok (.getfield 48, 3) := by decide +kernel
theorem dX6_failHere_6 : decode cX6_failHere 6 = .ok (.invokevirtual 61, 3) := by decide +kernel
theorem dX6_failHere_9 : decode cX6_failHere 9 = .ok (.ireturn, 1) := by decide +kernel
theorem dX6_skip_0 : decode cX6_skip 0 = .ok (.aload_n 0, 1) := by decide +kernel
theorem dX6_skip_1 : decode cX6_skip 1 = .ok (.iconst 0, 1) := by decide +kernel
theorem dX6_skip_2 : decode cX6_skip 2 = .ok (.putfield 51, 3) := by decide +kernel
theorem dX6_skip_5 : decode cX6_skip 5 = .ok (.return_, 1) := by decide +kernel
theorem dX6_look_0 : decode cX6_look 0 = .ok (.aload_n 0, 1) := by decide +kernel
theorem dX6_look_1 : decode cX6_look 1 = .ok (.getfield 51, 3) := by decide +kernel
theorem dX6_look_4 : decode cX6_look 4 = .ok (.ifCond .ne 10, 3) := by decide +kernel
theorem dX6_look_7 : decode cX6_look 7 = .ok (.aload_n 0, 1) := by decide +kernel
theorem dX6_look_8 : decode cX6_look 8 = .ok (.getfield 55, 3) := by decide +kernel
theorem dX6_look_11 : decode cX6_look 11 = .ok (.ifCond .eq 21, 3) := by decide +kernel
theorem dX6_look_14 : decode cX6_look 14 = .ok (.aload_n 0, 1) := by decide +kernel
theorem dX6_look_15 : decode cX6_look 15 = .ok (.getfield 55, 3) := by decide +kernel
theorem dX6_look_18 : decode cX6_look 18 = .ok (.ifCond .ne 10, 3) := by decide +kernel
theorem dX6_look_21 : decode cX6_look 21 = .ok (.aload_n 0, 1) := by decide +kernel
theorem dX6_look_22 : decode cX6_look 22 = .ok (.getfield 65, 3) := by decide +kernel
theorem dX6_look_25 : decode cX6_look 25 = .ok (.goto 6, 3) := by decide +kernel
theorem dX6_look_28 : decode cX6_look 28 = .ok (.sipush 303, 3) := by decide +kernel
theorem dX6_look_31 : decode cX6_look 31 = .ok (.ireturn, 1) := by decide +kernel
theorem dX6_look_32 : decode cX6_look 32 = .ok (.aload_n 0, 1) := by decide +kernel
theorem dX6_look_33 : decode cX6_look 33 = .ok (.iconst 1, 1) := by decide +kernel
theorem dX6_look_34 : decode cX6_look 34 = .ok (.putfield 51, 3) := by decide +kernel
theorem dX6_look_37 : decode cX6_look 37 = .ok (.aload_n 0, 1) := by decide +kernel
theorem dX6_look_38 : decode cX6_look 38 = .ok (.getfield 45, 3) := by decide +kernel
theorem dX6_look_41 : decode cX6_look 41 = .ok (.aload_n 0, 1) := by decide +kernel
theorem dX6_look_42 : decode cX6_look 42 = .ok (.getfield 42, 3) := by decide +kernel
theorem dX6_look_45 : decode cX6_look 45 = .ok (.if_icmp .ge 44, 3) := by decide +kernel
theorem dX6_look_48 : decode cX6_look 48 = .ok (.aload_n 0, 1) := by decide +kernel
theorem dX6_look_49 : decode cX6_look 49 = .ok (.getfield 11, 3) := by decide +kernel
theorem dX6_look_52 : decode cX6_look 52 = .ok (.aload_n 0, 1) := by decide +kernel
theorem dX6_look_53 : decode cX6_look 53 = .ok (.getfield 45, 3) := by decide +kernel
theorem dX6_look_56 : decode cX6_look 56 = .ok (.iaload, 1) := by decide +kernel
theorem dX6_look_57 : decode cX6_look 57 = .ok (.bipush 10, 2) := by decide +kernel
theorem dX6_look_59 : decode cX6_look 59 = .ok (.if_icmp .eq 17, 3) := by decide +kernel
theorem dX6_look_62 : decode cX6_look 62 = .ok (.aload_n 0, 1) := by decide +kernel
theorem dX6_look_63 : decode cX6_look 63 = .ok (.getfield 11, 3) := by decide +kernel
theorem dX6_look_66 : decode cX6_look 66 = .ok (.aload_n 0, 1) := by decide +kernel
theorem dX6_look_67 : decode cX6_look 67 = .ok (.getfield 45, 3) := by decide +kernel
theorem dX6_look_70 : decode cX6_look 70 = .ok (.iaload, 1) := by decide +kernel
theorem dX6_look_71 : decode cX6_look 71 = .ok (.bipush 32, 2) := by decide +kernel
theorem dX6_look_73 : decode cX6_look 73 = .ok (.if_icmp .ne 16, 3) := by decide +kernel
theorem dX6_look_76 : decode cX6_look 76 = .ok (.aload_n 0, 1) := by decide +kernel
theorem dX6_look_77 : decode cX6_look 77 = .ok (.dup, 1) := by decide +kernel
theorem dX6_look_78 : decode cX6_look 78 = .ok (.getfield 45, 3) := by decide +kernel
theorem dX6_look_81 : decode cX6_look 81 = .ok (.iconst 1, 1) := by decide +kernel
theorem dX6_look_82 : decode cX6_look 82 = .ok (.iadd, 1) := by decide +kernel
theorem dX6_look_83 : decode cX6_look 83 = .ok (.putfield 45, 3) := by decide +kernel
theorem dX6_look_86 : decode cX6_look 86 = .ok (.goto (-49), 3) := by decide +kernel
theorem dX6_look_89 : decode cX6_look 89 = .ok (.aload_n 0, 1) := by decide +kernel
theorem dX6_look_90 : decode cX6_look 90 = .ok (.aload_n 0, 1) := by decide +kernel
theorem dX6_look_91 : decode cX6_look 91 = .ok (.getfield 45, 3) := by decide +kernel
theorem dX6_look_94 : decode cX6_look 94 = .ok (.putfield 48, 3) := by decide +kernel
theorem dX6_look_97 : decode cX6_look 97 = .ok (.aload_n 0, 1) := by decide +kernel
theorem dX6_look_98 : decode cX6_look 98 = .ok (.aload_n 0, 1) := by decide +kernel
theorem dX6_look_99 : decode cX6_look 99 = .ok (.getfield 48, 3) := by decide +kernel
theorem dX6_look_102 : decode cX6_look 102 = .ok (.aload_n 0, 1) := by decide +kernel
theorem dX6_look_103 : decode cX6_look 103 = .ok (.getfield 42, 3) := by decide +kernel
theorem dX6_look_106 : decode cX6_look 106 = .ok (.if_icmp .ge 18, 3) := by decide +kernel
theorem dX6_look_109 : decode cX6_look 109 = .ok (.aload_n 0, 1) := by decide +kernel
theorem dX6_look_110 : decode cX6_look 110 = .ok (.getfield 11, 3) := by decide +kernel
theorem dX6_look_113 : decode cX6_look 113 = .ok (.aload_n 0, 1) := by decide +kernel
theorem dX6_look_114 : decode cX6_look 114 = .ok (.getfield 48, 3) := by decide +kernel
theorem dX6_look_117 : decode cX6_look 117 = .ok (.iaload, 1) := by decide +kernel
theorem dX6_look_118 : decode cX6_look 118 = .ok (.invokestatic 68, 3) := by decide +kernel
theorem dX6_look_121 : decode cX6_look 121 = .ok (.goto 6, 3) := by decide +kernel
theorem dX6_look_124 : decode cX6_look 124 = .ok (.sipush 302, 3) := by decide +kernel
theorem dX6_look_127 : decode cX6_look 127 = .ok (.putfield 65, 3) := by decide +kernel
theorem dX6_look_130 : decode cX6_look 130 = .ok (.aload_n 0, 1) := by decide +kernel
theorem dX6_look_131 : decode cX6_look 131 = .ok (.getfield 48, 3) := by decide +kernel
theorem dX6_look_134 : decode cX6_look 134 = .ok (.ifCond .le 27, 3) := by decide +kernel
theorem dX6_look_137 : decode cX6_look 137 = .ok (.aload_n 0, 1) := by decide +kernel
theorem dX6_look_138 : decode cX6_look 138 = .ok (.getfield 11, 3) := by decide +kernel
theorem dX6_look_141 : decode cX6_look 141 = .ok (.aload_n 0, 1) := by decide +kernel
theorem dX6_look_142 : decode cX6_look 142 = .ok (.getfield 48, 3) := by decide +kernel
theorem dX6_look_145 : decode cX6_look 145 = .ok (.iconst 1, 1) := by decide +kernel
theorem dX6_look_146 : decode cX6_look 146 = .ok (.isub, 1) := by decide +kernel
theorem dX6_look_147 : decode cX6_look 147 = .ok (.iaload, 1) := by decide +kernel
theorem dX6_look_148 : decode cX6_look 148 = .ok (.invokestatic 68, 3) := by decide +kernel
theorem dX6_look_151 : decode cX6_look 151 = .ok (.sipush 255, 3) := by decide +kernel
theorem dX6_look_154 : decode cX6_look 154 = .ok (.if_icmp .le 7, 3) := by decide +kernel
theorem dX6_look_157 : decode cX6_look 157 = .ok (.iconst 1, 1) := by decide +kernel
theorem dX6_look_158 : decode cX6_look 158 = .ok (.goto 4, 3) := by decide +kernel
theorem dX6_look_161 : decode cX6_look 161 = .ok (.iconst 0, 1) := by decide +kernel
theorem dX6_look_162 : decode cX6_look 162 = .ok (.istore_n 1, 1) := by decide +kernel
theorem dX6_look_163 : decode cX6_look 163 = .ok (.iconst 1, 1) := by decide +kernel
theorem dX6_look_164 : decode cX6_look 164 = .ok (.istore_n 2, 1) := by decide +kernel
theorem dX6_look_165 : decode cX6_look 165 = .ok (.aload_n 0, 1) := by decide +kernel
theorem dX6_look_166 : decode cX6_look 166 = .ok (.getfield 65, 3) := by decide +kernel
theorem dX6_look_169 : decode cX6_look 169 = .ok (.sipush 300, 3) := by decide +kernel
theorem dX6_look_172 : decode cX6_look 172 = .ok (.if_icmp .ne 23, 3) := by decide +kernel
theorem dX6_look_175 : decode cX6_look 175 = .ok (.iload_n 1, 1) := by decide +kernel
theorem dX6_look_176 : decode cX6_look 176 = .ok (.ifCond .ne 14, 3) := by decide +kernel
theorem dX6_look_179 : decode cX6_look 179 = .ok (.aload_n 0, 1) := by decide +kernel
theorem dX6_look_180 : decode cX6_look 180 = .ok (.invokevirtual 72, 3) := by decide +kernel
theorem dX6_look_183 : decode cX6_look 183 = .ok (.ifCond .eq 7, 3) := by decide +kernel
theorem dX6_look_186 : decode cX6_look 186 = .ok (.iconst 1, 1) := by decide +kernel
theorem dX6_look_187 : decode cX6_look 187 = .ok (.goto 4, 3) := by decide +kernel
theorem dX6_look_190 : decode cX6_look 190 = .ok (.iconst 0, 1) := by decide +kernel
theorem dX6_look_191 : decode cX6_look 191 = .ok (.istore_n 2, 1) := by decide +kernel
theorem dX6_look_192 : decode cX6_look 192 = .ok (.goto 53, 3) := by decide +kernel
theorem dX6_look_195 : decode cX6_look 195 = .ok (.aload_n 0, 1) := by decide +kernel
theorem dX6_look_196 : decode cX6_look 196 = .ok (.getfield 65, 3) := by decide +kernel
theorem dX6_look_199 : decode cX6_look 199 = .ok (.sipush 301, 3) := by decide +kernel
theorem dX6_look_202 : decode cX6_look 202 = .ok (.if_icmp .ne 23, 3) := by decide +kernel
theorem dX6_look_205 : decode cX6_look 205 = .ok (.iload_n 1, 1) := by decide +kernel
theorem dX6_look_206 : decode cX6_look 206 = .ok (.ifCond .ne 14, 3) := by decide +kernel
theorem dX6_look_209 : decode cX6_look 209 = .ok (.aload_n 0, 1) := by decide +kernel
theorem dX6_look_210 : decode cX6_look 210 = .ok (.invokevirtual 76, 3) := by decide +kernel
theorem dX6_look_213 : decode cX6_look 213 = .ok (.ifCond .eq 7, 3) := by decide +kernel
theorem dX6_look_216 : decode cX6_look 216 = .ok (.iconst 1, 1) := by decide +kernel
theorem dX6_look_217 : decode cX6_look 217 = .ok (.goto 4, 3) := by decide +kernel
theorem dX6_look_220 : decode cX6_look 220 = .ok (.iconst 0, 1) := by decide +kernel
theorem dX6_look_221 : decode cX6_look 221 = .ok (.istore_n 2, 1) := by decide +kernel
theorem dX6_look_222 : decode cX6_look 222 = .ok (.goto 23, 3) := by decide +kernel
theorem dX6_look_225 : decode cX6_look 225 = .ok (.aload_n 0, 1) := by decide +kernel
theorem dX6_look_226 : decode cX6_look 226 = .ok (.getfield 65, 3) := by decide +kernel
theorem dX6_look_229 : decode cX6_look 229 = .ok (.sipush 302, 3) := by decide +kernel
theorem dX6_look_232 : decode cX6_look 232 = .ok (.if_icmp .eq 13, 3) := by decide +kernel
theorem dX6_look_235 : decode cX6_look 235 = .ok (.aload_n 0, 1) := by decide +kernel
theorem dX6_look_236 : decode cX6_look 236 = .ok (.dup, 1) := by decide +kernel
theorem dX6_look_237 : decode cX6_look 237 = .ok (.getfield 45, 3) := by decide +kernel
theorem dX6_look_240 : decode cX6_look 240 = .ok (.iconst 1, 1) := by decide +kernel
theorem dX6_look_241 : decode cX6_look 241 = .ok (.iadd, 1) := by decide +kernel
theorem dX6_look_242 : decode cX6_look 242 = .ok (.putfield 45, 3) := by decide +kernel
theorem dX6_look_245 : decode cX6_look 245 = .ok (.iload_n 2, 1) := by decide +kernel
theorem dX6_look_246 : decode cX6_look 246 = .ok (.ifCond .ne 13, 3) := by decide +kernel
theorem dX6_look_249 : decode cX6_look 249 = .ok (.aload_n 0, 1) := by decide +kernel
theorem dX6_look_250 : decode cX6_look 250 = .ok (.iconst 1, 1) := by decide +kernel
theorem dX6_look_251 : decode cX6_look 251 = .ok (.aload_n 0, 1) := by decide +kernel
theorem dX6_look_252 : decode cX6_look 252 = .ok (.getfield 45, 3) := by decide +kernel
theorem dX6_look_255 : decode cX6_look 255 = .ok (.invokevirtual 61, 3) := by decide +kernel
theorem dX6_look_258 : decode cX6_look 258 = .ok (.pop, 1) := by decide +kernel
theorem dX6_look_259 : decode cX6_look 259 = .ok (.aload_n 0, 1) := by decide +kernel
theorem dX6_look_260 : decode cX6_look 260 = .ok (.getfield 55, 3) := by decide +kernel
theorem dX6_look_263 : decode cX6_look 263 = .ok (.ifCond .ne 10, 3) := by decide +kernel
theorem dX6_look_266 : decode cX6_look 266 = .ok (.aload_n 0, 1) := by decide +kernel
theorem dX6_look_267 : decode cX6_look 267 = .ok (.getfield 65, 3) := by decide +kernel
theorem dX6_look_270 : decode cX6_look 270 = .ok (.goto 6, 3) := by decide +kernel
theorem dX6_look_273 : decode cX6_look 273 = .ok (.sipush 303, 3) := by decide +kernel
theorem dX6_look_276 : decode cX6_look 276 = .ok (.ireturn, 1) := by decide +kernel
theorem dX6_kindOf_0 : decode cX6_kindOf 0 = .ok (.iload_n 0, 1) := by decide +kernel
theorem dX6_kindOf_1 : decode cX6_kindOf 1 = .ok (.bipush 97, 2) := by decide +kernel
theorem dX6_kindOf_3 : decode cX6_kindOf 3 = .ok (.if_icmp .lt 13, 3) := by decide +kernel
theorem dX6_kindOf_6 : decode cX6_kindOf 6 = .ok (.iload_n 0, 1) := by decide +kernel
theorem dX6_kindOf_7 : decode cX6_kindOf 7 = .ok (.bipush 122, 2) := by decide +kernel
theorem dX6_kindOf_9 : decode cX6_kindOf 9 = .ok (.if_icmp .gt 7, 3) := by decide +kernel
theorem dX6_kindOf_12 : decode cX6_kindOf 12 = .ok (.sipush 300, 3) := by decide +kernel
theorem dX6_kindOf_15 : decode cX6_kindOf 15 = .ok (.ireturn, 1) := by decide +kernel
theorem dX6_kindOf_16 : decode cX6_kindOf 16 = .ok (.iload_n 0, 1) := by decide +kernel
theorem dX6_kindOf_17 : decode cX6_kindOf 17 = .ok (.bipush 48, 2) := by decide +kernel
theorem dX6_kindOf_19 : decode cX6_kindOf 19 = .ok (.if_icmp .lt 15, 3) := by decide +kernel
theorem dX6_kindOf_22 : decode cX6_kindOf 22 = .ok (.iload_n 0, 1) := by decide +kernel
theorem dX6_kindOf_23 : decode cX6_kindOf 23 = .ok (.bipush 57, 2) := by decide +kernel
theorem dX6_kindOf_25 : decode cX6_kindOf 25 = .ok (.if_icmp .gt 9, 3) := by decide +kernel
theorem dX6_kindOf_28 : decode cX6_kindOf 28 = .ok (.sipush 301, 3) := by decide +kernel
theorem dX6_kindOf_31 : decode cX6_kindOf 31 = .ok (.goto 4, 3) := by decide +kernel
theorem dX6_kindOf_34 : decode cX6_kindOf 34 = .ok (.iload_n 0, 1) := by decide +kernel
theorem dX6_kindOf_35 : decode cX6_kindOf 35 = .ok (.ireturn, 1) := by decide +kernel
theorem dX6_readWord_0 : decode cX6_readWord 0 = .ok (.aload_n 0, 1) := by decide +kernel
theorem dX6_readWord_1 : decode cX6_readWord 1 = .ok (.iconst 0, 1) := by decide +kernel
theorem dX6_readWord_2 : decode cX6_readWord 2 = .ok (.putfield 79, 3) := by decide +kernel
theorem dX6_readWord_5 : decode cX6_readWord 5 = .ok (.aload_n 0, 1) := by decide +kernel
theorem dX6_readWord_6 : decode cX6_readWord 6 = .ok (.getfield 45, 3) := by decide +kernel
theorem dX6_readWord_9 : decode cX6_readWord 9 = .ok (.aload_n 0, 1) := by decide +kernel
theorem dX6_readWord_10 : decode cX6_readWord 10 = .ok (.getfield 42, 3) := by decide +kernel
theorem dX6_readWord_13 : decode cX6_readWord 13 = .ok (.if_icmp .ge 89, 3) := by decide +kernel
theorem dX6_readWord_16 : decode cX6_readWord 16 = .ok (.aload_n 0, 1) := by decide +kernel
theorem dX6_readWord_17 : decode cX6_readWord 17 = .ok (.getfield 11, 3) := by decide +kernel
theorem dX6_readWord_20 : decode cX6_readWord 20 = .ok (.aload_n 0, 1) := by decide +kernel
theorem dX6_readWord_21 : decode cX6_readWord 21 = .ok (.getfield 45, 3) := by decide +kernel
theorem dX6_readWord_24 : decode cX6_readWord 24 = .ok (.iaload, 1) := by decide +kernel
theorem dX6_readWord_25 : decode cX6_readWord 25 = .ok (.bipush 97, 2) := by decide +kernel
theorem dX6_readWord_27 : decode cX6_readWord 27 = .ok (.if_icmp .lt 75, 3) := by decide +kernel
theorem dX6_readWord_30 : decode cX6_readWord 30 = .ok (.aload_n 0, 1) := by decide +kernel
theorem dX6_readWord_31 : decode cX6_readWord 31 = .ok (.getfield 11, 3) := by decide +kernel
theorem dX6_readWord_34 : decode cX6_readWord 34 = .ok (.aload_n 0, 1) := by decide +kernel
theorem dX6_readWord_35 : decode cX6_readWord 35 = .ok (.getfield 45, 3) := by decide +kernel
theorem dX6_readWord_38 : decode cX6_readWord 38 = .ok (.iaload, 1) := by decide +kernel
theorem dX6_readWord_39 : decode cX6_readWord 39 = .ok (.bipush 122, 2) := by decide +kernel
theorem dX6_readWord_41 : decode cX6_readWord 41 = .ok (.if_icmp .gt 61, 3) := by decide +kernel
theorem dX6_readWord_44 : decode cX6_readWord 44 = .ok (.aload_n 0, 1) := by decide +kernel
theorem dX6_readWord_45 : decode cX6_readWord 45 = .ok (.getfield 45, 3) := by decide +kernel
theorem dX6_readWord_48 : decode cX6_readWord 48 = .ok (.aload_n 0, 1) := by decide +kernel
theorem dX6_readWord_49 : decode cX6_readWord 49 = .ok (.getfield 48, 3) := by decide +kernel
theorem dX6_readWord_52 : decode cX6_readWord 52 = .ok (.isub, 1) := by decide +kernel
theorem dX6_readWord_53 : decode cX6_readWord 53 = .ok (.istore_n 1, 1) := by decide +kernel
theorem dX6_readWord_54 : decode cX6_readWord 54 = .ok (.iload_n 1, 1) := by decide +kernel
theorem dX6_readWord_55 : decode cX6_readWord 55 = .ok (.bipush 6, 2) := by decide +kernel
theorem dX6_readWord_57 : decode cX6_readWord 57 = .ok (.if_icmp .lt 5, 3) := by decide +kernel
theorem dX6_readWord_60 : decode cX6_readWord 60 = .ok (.iconst 0, 1) := by decide +kernel
theorem dX6_readWord_61 : decode cX6_readWord 61 = .ok (.ireturn, 1) := by decide +kernel
theorem dX6_readWord_62 : decode cX6_readWord 62 = .ok (.aload_n 0, 1) := by decide +kernel
theorem dX6_readWord_63 : decode cX6_readWord 63 = .ok (.dup, 1) := by decide +kernel
theorem dX6_readWord_64 : decode cX6_readWord 64 = .ok (.getfield 79, 3) := by decide +kernel
theorem dX6_readWord_67 : decode cX6_readWord 67 = .ok (.aload_n 0, 1) := by decide +kernel
theorem dX6_readWord_68 : decode cX6_readWord 68 = .ok (.getfield 11, 3) := by decide +kernel
theorem dX6_readWord_71 : decode cX6_readWord 71 = .ok (.aload_n 0, 1) := by decide +kernel
theorem dX6_readWord_72 : decode cX6_readWord 72 = .ok (.getfield 45, 3) := by decide +kernel
theorem dX6_readWord_75 : decode cX6_readWord 75 = .ok (.iaload, 1) := by decide +kernel
theorem dX6_readWord_76 : decode cX6_readWord 76 = .ok (.bipush 97, 2) := by decide +kernel
theorem dX6_readWord_78 : decode cX6_readWord 78 = .ok (.isub, 1) := by decide +kernel
theorem dX6_readWord_79 : decode cX6_readWord 79 = .ok (.iconst 1, 1) := by decide +kernel
theorem dX6_readWord_80 : decode cX6_readWord 80 = .ok (.iadd, 1) := by decide +kernel
theorem dX6_readWord_81 : decode cX6_readWord 81 = .ok (.iload_n 1, 1) := by decide +kernel
theorem dX6_readWord_82 : decode cX6_readWord 82 = .ok (.iconst 5, 1) := by decide +kernel
theorem dX6_readWord_83 : decode cX6_readWord 83 = .ok (.imul, 1) := by decide +kernel
theorem dX6_readWord_84 : decode cX6_readWord 84 = .ok (.ishl, 1) := by decide +kernel
theorem dX6_readWord_85 : decode cX6_readWord 85 = .ok (.ior, 1) := by decide +kernel
theorem dX6_readWord_86 : decode cX6_readWord 86 = .ok (.putfield 79, 3) := by decide +kernel
theorem dX6_readWord_89 : decode cX6_readWord 89 = .ok (.aload_n 0, 1) := by decide +kernel
theorem dX6_readWord_90 : decode cX6_readWord 90 = .ok (.dup, 1) := by decide +kernel
theorem dX6_readWord_91 : decode cX6_readWord 91 = .ok (.getfield 45, 3) := by decide +kernel
theorem dX6_readWord_94 : decode cX6_readWord 94 = .ok (.iconst 1, 1) := by decide +kernel
theorem dX6_readWord_95 : decode cX6_readWord 95 = .ok (.iadd, 1) := by decide +kernel
theorem dX6_readWord_96 : decode cX6_readWord 96 = .ok (.putfield 45, 3) := by decide +kernel
theorem dX6_readWord_99 : decode cX6_readWord 99 = .ok (.goto (-94), 3) := by decide +kernel
theorem dX6_readWord_102 : decode cX6_readWord 102 = .ok (.iconst 0, 1) := by decide +kernel
theorem dX6_readWord_103 : decode cX6_readWord 103 = .ok (.istore_n 1, 1) := by decide +kernel
theorem dX6_readWord_104 : decode cX6_readWord 104 = .ok (.iload_n 1, 1) := by decide +kernel
theorem dX6_readWord_105 : decode cX6_readWord 105 = .ok (.bipush 23, 2) := by decide +kernel
theorem dX6_readWord_107 : decode cX6_readWord 107 = .ok (.if_icmp .ge 31, 3) := by decide +kernel
theorem dX6_readWord_110 : decode cX6_readWord 110 = .ok (.aload_n 0, 1) := by decide +kernel
theorem dX6_readWord_111 : decode cX6_readWord 111 = .ok (.getfield 15, 3) := by decide +kernel
theorem dX6_readWord_114 : decode cX6_readWord 114 = .ok (.iload_n 1, 1) := by decide +kernel
theorem dX6_readWord_115 : decode cX6_readWord 115 = .ok (.iaload, 1) := by decide +kernel
theorem dX6_readWord_116 : decode cX6_readWord 116 = .ok (.aload_n 0, 1) := by decide +kernel
theorem dX6_readWord_117 : decode cX6_readWord 117 = .ok (.getfield 79, 3) := by decide +kernel
theorem dX6_readWord_120 : decode cX6_readWord 120 = .ok (.if_icmp .ne 12, 3) := by decide +kernel
theorem dX6_readWord_123 : decode cX6_readWord 123 = .ok (.aload_n 0, 1) := by decide +kernel
theorem dX6_readWord_124 : decode cX6_readWord 124 = .ok (.sipush 400, 3) := by decide +kernel
theorem dX6_readWord_127 : decode cX6_readWord 127 = .ok (.iload_n 1, 1) := by decide +kernel
theorem dX6_readWord_128 : decode cX6_readWord 128 = .ok (.iadd, 1) := by decide +kernel
theorem dX6_readWord_129 : decode cX6_readWord 129 = .ok (.putfield 65, 3) := by decide +kernel
theorem dX6_readWord_132 : decode cX6_readWord 132 = .ok (.iinc 1 1, 3) := by decide +kernel
theorem dX6_readWord_135 : decode cX6_readWord 135 = .ok (.goto (-31), 3) := by decide +kernel
theorem dX6_readWord_138 : decode cX6_readWord 138 = .ok (.iconst 1, 1) := by decide +kernel
theorem dX6_readWord_139 : decode cX6_readWord 139 = .ok (.ireturn, 1) := by decide +kernel
theorem dX6_readNumber_0 : decode cX6_readNumber 0 = .ok (.aload_n 0, 1) := by decide +kernel
theorem dX6_readNumber_1 : decode cX6_readNumber 1 = .ok (.iconst 0, 1) := by decide +kernel
theorem dX6_readNumber_2 : decode cX6_readNumber 2 = .ok (.putfield 79, 3) := by decide +kernel
theorem dX6_readNumber_5 : decode cX6_readNumber 5 = .ok (.aload_n 0, 1) := by decide +kernel
theorem dX6_readNumber_6 : decode cX6_readNumber 6 = .ok (.getfield 45, 3) := by decide +kernel
theorem dX6_readNumber_9 : decode cX6_readNumber 9 = .ok (.aload_n 0, 1) := by decide +kernel
theorem dX6_readNumber_10 : decode cX6_readNumber 10 = .ok (.getfield 42, 3) := by decide +kernel
theorem dX6_readNumber_13 : decode cX6_readNumber 13 = .ok (.if_icmp .ge 83, 3) := by decide +kernel
theorem dX6_readNumber_16 : decode cX6_readNumber 16 = .ok (.aload_n 0, 1) := by decide +kernel
theorem dX6_readNumber_17 : decode cX6_readNumber 17 = .ok (.getfield 11, 3) := by decide +kernel
theorem dX6_readNumber_20 : decode cX6_readNumber 20 = .ok (.aload_n 0, 1) := by decide +kernel
theorem dX6_readNumber_21 : decode cX6_readNumber 21 = .ok (.getfield 45, 3) := by decide +kernel
theorem dX6_readNumber_24 : decode cX6_readNumber 24 = .ok (.iaload, 1) := by decide +kernel
theorem dX6_readNumber_25 : decode cX6_readNumber 25 = .ok (.bipush 48, 2) := by decide +kernel
theorem dX6_readNumber_27 : decode cX6_readNumber 27 = .ok (.if_icmp .lt 69, 3) := by decide +kernel
theorem dX6_readNumber_30 : decode cX6_readNumber 30 = .ok (.aload_n 0, 1) := by decide +kernel
theorem dX6_readNumber_31 : decode cX6_readNumber 31 = .ok (.getfield 11, 3) := by decide +kernel
theorem dX6_readNumber_34 : decode cX6_readNumber 34 = .ok (.aload_n 0, 1) := by decide +kernel
theorem dX6_readNumber_35 : decode cX6_readNumber 35 = .ok (.getfield 45, 3) := by decide +kernel
theorem dX6_readNumber_38 : decode cX6_readNumber 38 = .ok (.iaload, 1) := by decide +kernel
theorem dX6_readNumber_39 : decode cX6_readNumber 39 = .ok (.bipush 57, 2) := by decide +kernel
theorem dX6_readNumber_41 : decode cX6_readNumber 41 = .ok (.if_icmp .gt 55, 3) := by decide +kernel
theorem dX6_readNumber_44 : decode cX6_readNumber 44 = .ok (.aload_n 0, 1) := by decide +kernel
theorem dX6_readNumber_45 : decode cX6_readNumber 45 = .ok (.getfield 45, 3) := by decide +kernel
theorem dX6_readNumber_48 : decode cX6_readNumber 48 = .ok (.aload_n 0, 1) := by decide +kernel
theorem dX6_readNumber_49 : decode cX6_readNumber 49 = .ok (.getfield 48, 3) := by decide +kernel
theorem dX6_readNumber_52 : decode cX6_readNumber 52 = .ok (.isub, 1) := by decide +kernel
theorem dX6_readNumber_53 : decode cX6_readNumber 53 = .ok (.iconst 4, 1) := by decide +kernel
theorem dX6_readNumber_54 : decode cX6_readNumber 54 = .ok (.if_icmp .lt 5, 3) := by decide +kernel
theorem dX6_readNumber_57 : decode cX6_readNumber 57 = .ok (.iconst 0, 1) := by decide +kernel
theorem dX6_readNumber_58 : decode cX6_readNumber 58 = .ok (.ireturn, 1) := by decide +kernel
theorem dX6_readNumber_59 : decode cX6_readNumber 59 = .ok (.aload_n 0, 1) := by decide +kernel
theorem dX6_readNumber_60 : decode cX6_readNumber 60 = .ok (.aload_n 0, 1) := by decide +kernel
theorem dX6_readNumber_61 : decode cX6_readNumber 61 = .ok (.getfield 79, 3) := by decide +kernel
theorem dX6_readNumber_64 : decode cX6_readNumber 64 = .ok (.bipush 10, 2) := by decide +kernel
theorem dX6_readNumber_66 : decode cX6_readNumber 66 = .ok (.imul, 1) := by decide +kernel
theorem dX6_readNumber_67 : decode cX6_readNumber 67 = .ok (.aload_n 0, 1) := by decide +kernel
theorem dX6_readNumber_68 : decode cX6_readNumber 68 = .ok (.getfield 11, 3) := by decide +kernel
theorem dX6_readNumber_71 : decode cX6_readNumber 71 = .ok (.aload_n 0, 1) := by decide +kernel
theorem dX6_readNumber_72 : decode cX6_readNumber 72 = .ok (.getfield 45, 3) := by decide +kernel
theorem dX6_readNumber_75 : decode cX6_readNumber 75 = .ok (.iaload, 1) := by decide +kernel
theorem dX6_readNumber_76 : decode cX6_readNumber 76 = .ok (.iadd, 1) := by decide +kernel
theorem dX6_readNumber_77 : decode cX6_readNumber 77 = .ok (.bipush 48, 2) := by decide +kernel
theorem dX6_readNumber_79 : decode cX6_readNumber 79 = .ok (.isub, 1) := by decide +kernel
theorem dX6_readNumber_80 : decode cX6_readNumber 80 = .ok (.putfield 79, 3) := by decide +kernel
theorem dX6_readNumber_83 : decode cX6_readNumber 83 = .ok (.aload_n 0, 1) := by decide +kernel
theorem dX6_readNumber_84 : decode cX6_readNumber 84 = .ok (.dup, 1) := by decide +kernel
theorem dX6_readNumber_85 : decode cX6_readNumber 85 = .ok (.getfield 45, 3) := by decide +kernel
theorem dX6_readNumber_88 : decode cX6_readNumber 88 = .ok (.iconst 1, 1) := by decide +kernel
theorem dX6_readNumber_89 : decode cX6_readNumber 89 = .ok (.iadd, 1) := by decide +kernel
theorem dX6_readNumber_90 : decode cX6_readNumber 90 = .ok (.putfield 45, 3) := by decide +kernel
theorem dX6_readNumber_93 : decode cX6_readNumber 93 = .ok (.goto (-88), 3) := by decide +kernel
theorem dX6_readNumber_96 : decode cX6_readNumber 96 = .ok (.iconst 1, 1) := by decide +kernel
theorem dX6_readNumber_97 : decode cX6_readNumber 97 = .ok (.ireturn, 1) := by decide +kernel
theorem dX7_clear_0 : decode cX7_clear 0 = .ok (.aload_n 0, 1) := by decide +kernel
theorem dX7_clear_1 : decode cX7_clear 1 = .ok (.iconst 0, 1) := by decide +kernel
theorem dX7_clear_2 : decode cX7_clear 2 = .ok (.putfield 22, 3) := by decide +kernel
theorem dX7_clear_5 : decode cX7_clear 5 = .ok (.aload_n 0, 1) := by decide +kernel
theorem dX7_clear_6 : decode cX7_clear 6 = .ok (.iconst 0, 1) := by decide +kernel
theorem dX7_clear_7 : decode cX7_clear 7 = .ok (.putfield 25, 3) := by decide +kernel
theorem dX7_clear_10 : decode cX7_clear 10 = .ok (.return_, 1) := by decide +kernel
theorem dX7_get_0 : decode cX7_get 0 = .ok (.iload_n 1, 1) := by decide +kernel
theorem dX7_get_1 : decode cX7_get 1 = .ok (.ifCond .lt 23, 3) := by decide +kernel
theorem dX7_get_4 : decode cX7_get 4 = .ok (.iload_n 1, 1) := by decide +kernel
theorem dX7_get_5 : decode cX7_get 5 = .ok (.aload_n 0, 1) := by decide +kernel
theorem dX7_get_6 : decode cX7_get 6 = .ok (.getfield 25, 3) := by decide +kernel
theorem dX7_get_9 : decode cX7_get 9 = .ok (.if_icmp .ge 15, 3) := by decide +kernel
theorem dX7_get_12 : decode cX7_get 12 = .ok (.iload_n 2, 1) := by decide +kernel
theorem dX7_get_13 : decode cX7_get 13 = .ok (.ifCond .lt 11, 3) := by decide +kernel
theorem dX7_get_16 : decode cX7_get 16 = .ok (.iload_n 2, 1) := by decide +kernel
theorem dX7_get_17 : decode cX7_get 17 = .ok (.aload_n 0, 1) := by decide +kernel
theorem dX7_get_18 : decode cX7_get 18 = .ok (.getfield 15, 3) := by decide +kernel
theorem dX7_get_21 : decode cX7_get 21 = .ok (.if_icmp .lt 5, 3) := by decide +kernel
theorem dX7_get_24 : decode cX7_get 24 = .ok (.iconst (-1), 1) := by decide +kernel
theorem dX7_get_25 : decode cX7_get 25 = .ok (.ireturn, 1) := by decide +kernel
theorem dX7_get_26 : decode cX7_get 26 = .ok (.aload_n 0, 1) := by decide +kernel
theorem dX7_get_27 : decode cX7_get 27 = .ok (.getfield 18, 3) := by decide +kernel
theorem dX7_get_30 : decode cX7_get 30 = .ok (.aload_n 0, 1) := by decide +kernel
theorem dX7_get_31 : decode cX7_get 31 = .ok (.iload_n 1, 1) := by decide +kernel
theorem dX7_get_32 : decode cX7_get 32 = .ok (.invokevirtual 28, 3) := by decide +kernel
theorem dX7_get_35 : decode cX7_get 35 = .ok (.aload_n 0, 1) := by decide +kernel
theorem dX7_get_36 : decode cX7_get 36 = .ok (.getfield 15, 3) := by decide +kernel
theorem dX7_get_39 : decode cX7_get 39 = .ok (.imul, 1) := by decide +kernel
theorem dX7_get_40 : decode cX7_get 40 = .ok (.iload_n 2, 1) := by decide +kernel
theorem dX7_get_41 : decode cX7_get 41 = .ok (.iadd, 1) := by decide +kernel
theorem dX7_get_42 : decode cX7_get 42 = .ok (.iaload, 1) := by decide +kernel
theorem dX7_get_43 : decode cX7_get 43 = .ok (.ireturn, 1) := by decide +kernel
theorem dX7_grow_0 : decode cX7_grow 0 = .ok (.aload_n 0, 1) := by decide +kernel
theorem dX7_grow_1 : decode cX7_grow 1 = .ok (.getfield 25, 3) := by decide +kernel
theorem dX7_grow_4 : decode cX7_grow 4 = .ok (.aload_n 0, 1) := by decide +kernel
theorem dX7_grow_5 : decode cX7_grow 5 = .ok (.getfield 9, 3) := by decide +kernel
theorem dX7_grow_8 : decode cX7_grow 8 = .ok (.if_icmp .ge 16, 3) := by decide +kernel
theorem dX7_grow_11 : decode cX7_grow 11 = .ok (.aload_n 0, 1) := by decide +kernel
theorem dX7_grow_12 : decode cX7_grow 12 = .ok (.dup, 1) := by decide +kernel
theorem dX7_grow_13 : decode cX7_grow 13 = .ok (.getfield 25, 3) := by decide +kernel
theorem dX7_grow_16 : decode cX7_grow 16 = .ok (.iconst 1, 1) := by decide +kernel
theorem dX7_grow_17 : decode cX7_grow 17 = .ok (.iadd, 1) := by decide +kernel
theorem dX7_grow_18 : decode cX7_grow 18 = .ok (.putfield 25, 3) := by decide +kernel
theorem dX7_grow_21 : decode cX7_grow 21 = .ok (.goto 12, 3) := by decide +kernel
theorem dX7_grow_24 : decode cX7_grow 24 = .ok (.aload_n 0, 1) := by decide +kernel
theorem dX7_grow_25 : decode cX7_grow 25 = .ok (.aload_n 0, 1) := by decide +kernel
theorem dX7_grow_26 : decode cX7_grow 26 = .ok (.iconst 1, 1) := by decide +kernel
theorem dX7_grow_27 : decode cX7_grow 27 = .ok (.invokevirtual 28, 3) := by decide +kernel
theorem dX7_grow_30 : decode cX7_grow 30 = .ok (.putfield 22, 3) := by decide +kernel
theorem dX7_grow_33 : decode cX7_grow 33 = .ok (.return_, 1) := by decide +kernel
theorem dX7_set_0 : decode cX7_set 0 = .ok (.aload_n 0, 1) := by decide +kernel
theorem dX7_set_1 : decode cX7_set 1 = .ok (.getfield 25, 3) := by decide +kernel
theorem dX7_set_4 : decode cX7_set 4 = .ok (.ifCond .le 38, 3) := by decide +kernel
theorem dX7_set_7 : decode cX7_set 7 = .ok (.iload_n 1, 1) := by decide +kernel
theorem dX7_set_8 : decode cX7_set 8 = .ok (.ifCond .lt 34, 3) := by decide +kernel
theorem dX7_set_11 : decode cX7_set 11 = .ok (.iload_n 1, 1) := by decide +kernel
theorem dX7_set_12 : decode cX7_set 12 = .ok (.aload_n 0, 1) := by decide +kernel
theorem dX7_set_13 : decode cX7_set 13 = .ok (.getfield 15, 3) := by decide +kernel
theorem dX7_set_16 : decode cX7_set 16 = .ok (.if_icmp .ge 26, 3) := by decide +kernel
theorem dX7_set_19 : decode cX7_set 19 = .ok (.aload_n 0, 1) := by decide +kernel
theorem dX7_set_20 : decode cX7_set 20 = .ok (.getfield 18, 3) := by decide +kernel
theorem dX7_set_23 : decode cX7_set 23 = .ok (.aload_n 0, 1) := by decide +kernel
theorem dX7_set_24 : decode cX7_set 24 = .ok (.aload_n 0, 1) := by decide +kernel
theorem dX7_set_25 : decode cX7_set 25 = .ok (.getfield 25, 3) := by decide +kernel
theorem dX7_set_28 : decode cX7_set 28 = .ok (.iconst 1, 1) := by decide +kernel
theorem dX7_set_29 : decode cX7_set 29 = .ok (.isub, 1) := by decide +kernel
theorem dX7_set_30 : decode cX7_set 30 = .ok (.invokevirtual 28, 3) := by decide +kernel
theorem dX7_set_33 : decode cX7_set 33 = .ok (.aload_n 0, 1) := by decide +kernel
theorem dX7_set_34 : decode cX7_set 34 = .ok (.getfield 15, 3) := by decide +kernel
theorem dX7_set_37 : decode cX7_set 37 = .ok (.imul, 1) := by decide +kernel
theorem dX7_set_38 : decode cX7_set 38 = .ok (.iload_n 1, 1) := by decide +kernel
theorem dX7_set_39 : decode cX7_set 39 = .ok (.iadd, 1) := by decide +kernel
theorem dX7_set_40 : decode cX7_set 40 = .ok (.iload_n 2, 1) := by decide +kernel
theorem dX7_set_41 : decode cX7_set 41 = .ok (.iastore, 1) := by decide +kernel
theorem dX7_set_42 : decode cX7_set 42 = .ok (.return_, 1) := by decide +kernel
theorem dX7_place_0 : decode cX7_place 0 = .ok (.aload_n 0, 1) := by decide +kernel
theorem dX7_place_1 : decode cX7_place 1 = .ok (.getfield 22, 3) := by decide +kernel
theorem dX7_place_4 : decode cX7_place 4 = .ok (.iload_n 1, 1) := by decide +kernel
theorem dX7_place_5 : decode cX7_place 5 = .ok (.iadd, 1) := by decide +kernel
theorem dX7_place_6 : decode cX7_place 6 = .ok (.istore_n 2, 1) := by decide +kernel
theorem dX7_place_7 : decode cX7_place 7 = .ok (.iload_n 2, 1) := by decide +kernel
theorem dX7_place_8 : decode cX7_place 8 = .ok (.aload_n 0, 1) := by decide +kernel
theorem dX7_place_9 : decode cX7_place 9 = .ok (.getfield 9, 3) := by decide +kernel
theorem dX7_place_12 : decode cX7_place 12 = .ok (.if_icmp .ge 7, 3) := by decide +kernel
theorem dX7_place_15 : decode cX7_place 15 = .ok (.iload_n 2, 1) := by decide +kernel
theorem dX7_place_16 : decode cX7_place 16 = .ok (.goto 9, 3) := by decide +kernel
theorem dX7_place_19 : decode cX7_place 19 = .ok (.iload_n 2, 1) := by decide +kernel
theorem dX7_place_20 : decode cX7_place 20 = .ok (.aload_n 0, 1) := by decide +kernel
theorem dX7_place_21 : decode cX7_place 21 = .ok (.getfield 9, 3) := by decide +kernel
theorem dX7_place_24 : decode cX7_place 24 = .ok (.isub, 1) := by decide +kernel
theorem dX7_place_25 : decode cX7_place 25 = .ok (.ireturn, 1) := by decide +kernel
theorem dX8_holds_0 : decode cX8_holds 0 = .ok (.iload_n 1, 1) := by decide +kernel
theorem dX8_holds_1 : decode cX8_holds 1 = .ok (.ifCond .lt 15, 3) := by decide +kernel
theorem dX8_holds_4 : decode cX8_holds 4 = .ok (.iload_n 1, 1) := by decide +kernel
theorem dX8_holds_5 : decode cX8_holds 5 = .ok (.aload_n 0, 1) := by decide +kernel
theorem dX8_holds_6 : decode cX8_holds 6 = .ok (.getfield 25, 3) := by decide +kernel
theorem dX8_holds_9 : decode cX8_holds 9 = .ok (.if_icmp .ge 7, 3) := by decide +kernel
theorem dX8_holds_12 : decode cX8_holds 12 = .ok (.iconst 1, 1) := by decide +kernel
theorem dX8_holds_13 : decode cX8_holds 13 = .ok (.goto 4, 3) := by decide +kernel
theorem dX8_holds_16 : decode cX8_holds 16 = .ok (.iconst 0, 1) := by decide +kernel
theorem dX8_holds_17 : decode cX8_holds 17 = .ok (.ireturn, 1) := by decide +kernel
theorem dX8_isFull_0 : decode cX8_isFull 0 = .ok (.aload_n 0, 1) := by decide +kernel
theorem dX8_isFull_1 : decode cX8_isFull 1 = .ok (.getfield 25, 3) := by decide +kernel
theorem dX8_isFull_4 : decode cX8_isFull 4 = .ok (.aload_n 0, 1) := by decide +kernel
theorem dX8_isFull_5 : decode cX8_isFull 5 = .ok (.getfield 9, 3) := by decide +kernel
theorem dX8_isFull_8 : decode cX8_isFull 8 = .ok (.if_icmp .lt 7, 3) := by decide +kernel
theorem dX8_isFull_11 : decode cX8_isFull 11 = .ok (.iconst 1, 1) := by decide +kernel
theorem dX8_isFull_12 : decode cX8_isFull 12 = .ok (.goto 4, 3) := by decide +kernel
theorem dX8_isFull_15 : decode cX8_isFull 15 = .ok (.iconst 0, 1) := by decide +kernel
theorem dX8_isFull_16 : decode cX8_isFull 16 = .ok (.ireturn, 1) := by decide +kernel
theorem dX8_name_0 : decode cX8_name 0 = .ok (.aload_n 0, 1) := by decide +kernel
theorem dX8_name_1 : decode cX8_name 1 = .ok (.iload_n 1, 1) := by decide +kernel
theorem dX8_name_2 : decode cX8_name 2 = .ok (.invokevirtual 28, 3) := by decide +kernel
theorem dX8_name_5 : decode cX8_name 5 = .ok (.ifCond .eq 12, 3) := by decide +kernel
theorem dX8_name_8 : decode cX8_name 8 = .ok (.aload_n 0, 1) := by decide +kernel
theorem dX8_name_9 : decode cX8_name 9 = .ok (.getfield 18, 3) := by decide +kernel
theorem dX8_name_12 : decode cX8_name 12 = .ok (.iload_n 1, 1) := by decide +kernel
theorem dX8_name_13 : decode cX8_name 13 = .ok (.iaload, 1) := by decide +kernel
theorem dX8_name_14 : decode cX8_name 14 = .ok (.goto 4, 3) := by decide +kernel
theorem dX8_name_17 : decode cX8_name 17 = .ok (.iconst 0, 1) := by decide +kernel
theorem dX8_name_18 : decode cX8_name 18 = .ok (.ireturn, 1) := by decide +kernel
theorem dX8_get_0 : decode cX8_get 0 = .ok (.iload_n 1, 1) := by decide +kernel
theorem dX8_get_1 : decode cX8_get 1 = .ok (.ifCond .lt 39, 3) := by decide +kernel
theorem dX8_get_4 : decode cX8_get 4 = .ok (.iload_n 1, 1) := by decide +kernel
theorem dX8_get_5 : decode cX8_get 5 = .ok (.aload_n 0, 1) := by decide +kernel
theorem dX8_get_6 : decode cX8_get 6 = .ok (.getfield 25, 3) := by decide +kernel
theorem dX8_get_9 : decode cX8_get 9 = .ok (.if_icmp .ge 31, 3) := by decide +kernel
theorem dX8_get_12 : decode cX8_get 12 = .ok (.iload_n 2, 1) := by decide +kernel
theorem dX8_get_13 : decode cX8_get 13 = .ok (.ifCond .lt 27, 3) := by decide +kernel
theorem dX8_get_16 : decode cX8_get 16 = .ok (.iload_n 2, 1) := by decide +kernel
theorem dX8_get_17 : decode cX8_get 17 = .ok (.aload_n 0, 1) := by decide +kernel
theorem dX8_get_18 : decode cX8_get 18 = .ok (.getfield 15, 3) := by decide +kernel
theorem dX8_get_21 : decode cX8_get 21 = .ok (.if_icmp .ge 19, 3) := by decide +kernel
theorem dX8_get_24 : decode cX8_get 24 = .ok (.aload_n 0, 1) := by decide +kernel
theorem dX8_get_25 : decode cX8_get 25 = .ok (.getfield 22, 3) := by decide +kernel
theorem dX8_get_28 : decode cX8_get 28 = .ok (.iload_n 1, 1) := by decide +kernel
theorem dX8_get_29 : decode cX8_get 29 = .ok (.aload_n 0, 1) := by decide +kernel
theorem dX8_get_30 : decode cX8_get 30 = .ok (.getfield 15, 3) := by decide +kernel
theorem dX8_get_33 : decode cX8_get 33 = .ok (.imul, 1) := by decide +kernel
theorem dX8_get_34 : decode cX8_get 34 = .ok (.iload_n 2, 1) := by decide +kernel
theorem dX8_get_35 : decode cX8_get 35 = .ok (.iadd, 1) := by decide +kernel
theorem dX8_get_36 : decode cX8_get 36 = .ok (.iaload, 1) := by decide +kernel
theorem dX8_get_37 : decode cX8_get 37 = .ok (.goto 4, 3) := by decide +kernel
theorem dX8_get_40 : decode cX8_get 40 = .ok (.iconst (-1), 1) := by decide +kernel
theorem dX8_get_41 : decode cX8_get 41 = .ok (.ireturn, 1) := by decide +kernel
theorem dX8_put_0 : decode cX8_put 0 = .ok (.aload_n 0, 1) := by decide +kernel
theorem dX8_put_1 : decode cX8_put 1 = .ok (.iload_n 1, 1) := by decide +kernel
theorem dX8_put_2 : decode cX8_put 2 = .ok (.invokevirtual 28, 3) := by decide +kernel
theorem dX8_put_5 : decode cX8_put 5 = .ok (.ifCond .eq 29, 3) := by decide +kernel
theorem dX8_put_8 : decode cX8_put 8 = .ok (.iload_n 2, 1) := by decide +kernel
theorem dX8_put_9 : decode cX8_put 9 = .ok (.ifCond .lt 25, 3) := by decide +kernel
theorem dX8_put_12 : decode cX8_put 12 = .ok (.iload_n 2, 1) := by decide +kernel
theorem dX8_put_13 : decode cX8_put 13 = .ok (.aload_n 0, 1) := by decide +kernel
theorem dX8_put_14 : decode cX8_put 14 = .ok (.getfield 15, 3) := by decide +kernel
theorem dX8_put_17 : decode cX8_put 17 = .ok (.if_icmp .ge 17, 3) := by decide +kernel
theorem dX8_put_20 : decode cX8_put 20 = .ok (.aload_n 0, 1) := by decide +kernel
theorem dX8_put_21 : decode cX8_put 21 = .ok (.getfield 22, 3) := by decide +kernel
theorem dX8_put_24 : decode cX8_put 24 = .ok (.iload_n 1, 1) := by decide +kernel
theorem dX8_put_25 : decode cX8_put 25 = .ok (.aload_n 0, 1) := by decide +kernel
theorem dX8_put_26 : decode cX8_put 26 = .ok (.getfield 15, 3) := by decide +kernel
theorem dX8_put_29 : decode cX8_put 29 = .ok (.imul, 1) := by decide +kernel
theorem dX8_put_30 : decode cX8_put 30 = .ok (.iload_n 2, 1) := by decide +kernel
theorem dX8_put_31 : decode cX8_put 31 = .ok (.iadd, 1) := by decide +kernel
theorem dX8_put_32 : decode cX8_put 32 = .ok (.iload_n 3, 1) := by decide +kernel
theorem dX8_put_33 : decode cX8_put 33 = .ok (.iastore, 1) := by decide +kernel
theorem dX8_put_34 : decode cX8_put 34 = .ok (.return_, 1) := by decide +kernel
theorem dX8_add_0 : decode cX8_add 0 = .ok (.aload_n 0, 1) := by decide +kernel
theorem dX8_add_1 : decode cX8_add 1 = .ok (.invokevirtual 32, 3) := by decide +kernel
theorem dX8_add_4 : decode cX8_add 4 = .ok (.ifCond .eq 5, 3) := by decide +kernel
theorem dX8_add_7 : decode cX8_add 7 = .ok (.iconst (-1), 1) := by decide +kernel
theorem dX8_add_8 : decode cX8_add 8 = .ok (.ireturn, 1) := by decide +kernel
theorem dX8_add_9 : decode cX8_add 9 = .ok (.aload_n 0, 1) := by decide +kernel
theorem dX8_add_10 : decode cX8_add 10 = .ok (.getfield 18, 3) := by decide +kernel
theorem dX8_add_13 : decode cX8_add 13 = .ok (.aload_n 0, 1) := by decide +kernel
theorem dX8_add_14 : decode cX8_add 14 = .ok (.getfield 25, 3) := by decide +kernel
theorem dX8_add_17 : decode cX8_add 17 = .ok (.iload_n 1, 1) := by decide +kernel
theorem dX8_add_18 : decode cX8_add 18 = .ok (.iastore, 1) := by decide +kernel
theorem dX8_add_19 : decode cX8_add 19 = .ok (.aload_n 0, 1) := by decide +kernel
theorem dX8_add_20 : decode cX8_add 20 = .ok (.dup, 1) := by decide +kernel
theorem dX8_add_21 : decode cX8_add 21 = .ok (.getfield 25, 3) := by decide +kernel
theorem dX8_add_24 : decode cX8_add 24 = .ok (.iconst 1, 1) := by decide +kernel
theorem dX8_add_25 : decode cX8_add 25 = .ok (.iadd, 1) := by decide +kernel
theorem dX8_add_26 : decode cX8_add 26 = .ok (.putfield 25, 3) := by decide +kernel
theorem dX8_add_29 : decode cX8_add 29 = .ok (.aload_n 0, 1) := by decide +kernel
theorem dX8_add_30 : decode cX8_add 30 = .ok (.getfield 25, 3) := by decide +kernel
theorem dX8_add_33 : decode cX8_add 33 = .ok (.iconst 1, 1) := by decide +kernel
theorem dX8_add_34 : decode cX8_add 34 = .ok (.isub, 1) := by decide +kernel
theorem dX8_add_35 : decode cX8_add 35 = .ok (.ireturn, 1) := by decide +kernel
theorem dX8_find_0 : decode cX8_find 0 = .ok (.iconst 0, 1) := by decide +kernel
theorem dX8_find_1 : decode cX8_find 1 = .ok (.istore_n 2, 1) := by decide +kernel
theorem dX8_find_2 : decode cX8_find 2 = .ok (.iload_n 2, 1) := by decide +kernel
theorem dX8_find_3 : decode cX8_find 3 = .ok (.aload_n 0, 1) := by decide +kernel
theorem dX8_find_4 : decode cX8_find 4 = .ok (.getfield 25, 3) := by decide +kernel
theorem dX8_find_7 : decode cX8_find 7 = .ok (.if_icmp .ge 21, 3) := by decide +kernel
theorem dX8_find_10 : decode cX8_find 10 = .ok (.aload_n 0, 1) := by decide +kernel
theorem dX8_find_11 : decode cX8_find 11 = .ok (.getfield 18, 3) := by decide +kernel
theorem dX8_find_14 : decode cX8_find 14 = .ok (.iload_n 2, 1) := by decide +kernel
theorem dX8_find_15 : decode cX8_find 15 = .ok (.iaload, 1) := by decide +kernel
theorem dX8_find_16 : decode cX8_find 16 = .ok (.iload_n 1, 1) := by decide +kernel
theorem dX8_find_17 : decode cX8_find 17 = .ok (.if_icmp .ne 5, 3) := by decide +kernel
theorem dX8_find_20 : decode cX8_find 20 = .ok (.iload_n 2, 1) := by decide +kernel
theorem dX8_find_21 : decode cX8_find 21 = .ok (.ireturn, 1) := by decide +kernel
theorem dX8_find_22 : decode cX8_find 22 = .ok (.iinc 2 1, 3) := by decide +kernel
theorem dX8_find_25 : decode cX8_find 25 = .ok (.goto (-23), 3) := by decide +kernel
theorem dX8_find_28 : decode cX8_find 28 = .ok (.iconst (-1), 1) := by decide +kernel
theorem dX8_find_29 : decode cX8_find 29 = .ok (.ireturn, 1) := by decide +kernel
theorem dX8_remove_0 : decode cX8_remove 0 = .ok (.aload_n 0, 1) := by decide +kernel
theorem dX8_remove_1 : decode cX8_remove 1 = .ok (.iload_n 1, 1) := by decide +kernel
theorem dX8_remove_2 : decode cX8_remove 2 = .ok (.invokevirtual 28, 3) := by decide +kernel
theorem dX8_remove_5 : decode cX8_remove 5 = .ok (.ifCond .ne 4, 3) := by decide +kernel
theorem dX8_remove_8 : decode cX8_remove 8 = .ok (.return_, 1) := by decide +kernel
theorem dX8_remove_9 : decode cX8_remove 9 = .ok (.iload_n 1, 1) := by decide +kernel
theorem dX8_remove_10 : decode cX8_remove 10 = .ok (.istore_n 2, 1) := by decide +kernel
theorem dX8_remove_11 : decode cX8_remove 11 = .ok (.iload_n 2, 1) := by decide +kernel
theorem dX8_remove_12 : decode cX8_remove 12 = .ok (.iconst 1, 1) := by decide +kernel
theorem dX8_remove_13 : decode cX8_remove 13 = .ok (.iadd, 1) := by decide +kernel
theorem dX8_remove_14 : decode cX8_remove 14 = .ok (.aload_n 0, 1) := by decide +kernel
theorem dX8_remove_15 : decode cX8_remove 15 = .ok (.getfield 25, 3) := by decide +kernel
theorem dX8_remove_18 : decode cX8_remove 18 = .ok (.if_icmp .ge 67, 3) := by decide +kernel
theorem dX8_remove_21 : decode cX8_remove 21 = .ok (.aload_n 0, 1) := by decide +kernel
theorem dX8_remove_22 : decode cX8_remove 22 = .ok (.getfield 18, 3) := by decide +kernel
theorem dX8_remove_25 : decode cX8_remove 25 = .ok (.iload_n 2, 1) := by decide +kernel
theorem dX8_remove_26 : decode cX8_remove 26 = .ok (.aload_n 0, 1) := by decide +kernel
theorem dX8_remove_27 : decode cX8_remove 27 = .ok (.getfield 18, 3) := by decide +kernel
theorem dX8_remove_30 : decode cX8_remove 30 = .ok (.iload_n 2, 1) := by decide +kernel
theorem dX8_remove_31 : decode cX8_remove 31 = .ok (.iconst 1, 1) := by decide +kernel
theorem dX8_remove_32 : decode cX8_remove 32 = .ok (.iadd, 1) := by decide +kernel
theorem dX8_remove_33 : decode cX8_remove 33 = .ok (.iaload, 1) := by decide +kernel
theorem dX8_remove_34 : decode cX8_remove 34 = .ok (.iastore, 1) := by decide +kernel
theorem dX8_remove_35 : decode cX8_remove 35 = .ok (.iconst 0, 1) := by decide +kernel
theorem dX8_remove_36 : decode cX8_remove 36 = .ok (.istore_n 3, 1) := by decide +kernel
theorem dX8_remove_37 : decode cX8_remove 37 = .ok (.iload_n 3, 1) := by decide +kernel
theorem dX8_remove_38 : decode cX8_remove 38 = .ok (.aload_n 0, 1) := by decide +kernel
theorem dX8_remove_39 : decode cX8_remove 39 = .ok (.getfield 15, 3) := by decide +kernel
theorem dX8_remove_42 : decode cX8_remove 42 = .ok (.if_icmp .ge 37, 3) := by decide +kernel
theorem dX8_remove_45 : decode cX8_remove 45 = .ok (.aload_n 0, 1) := by decide +kernel
theorem dX8_remove_46 : decode cX8_remove 46 = .ok (.getfield 22, 3) := by decide +kernel
theorem dX8_remove_49 : decode cX8_remove 49 = .ok (.iload_n 2, 1) := by decide +kernel
theorem dX8_remove_50 : decode cX8_remove 50 = .ok (.aload_n 0, 1) := by decide +kernel
theorem dX8_remove_51 : decode cX8_remove 51 = .ok (.getfield 15, 3) := by decide +kernel
theorem dX8_remove_54 : decode cX8_remove 54 = .ok (.imul, 1) := by decide +kernel
theorem dX8_remove_55 : decode cX8_remove 55 = .ok (.iload_n 3, 1) := by decide +kernel
theorem dX8_remove_56 : decode cX8_remove 56 = .ok (.iadd, 1) := by decide +kernel
theorem dX8_remove_57 : decode cX8_remove 57 = .ok (.aload_n 0, 1) := by decide +kernel
theorem dX8_remove_58 : decode cX8_remove 58 = .ok (.getfield 22, 3) := by decide +kernel
theorem dX8_remove_61 : decode cX8_remove 61 = .ok (.iload_n 2, 1) := by decide +kernel
theorem dX8_remove_62 : decode cX8_remove 62 = .ok (.iconst 1, 1) := by decide +kernel
theorem dX8_remove_63 : decode cX8_remove 63 = .ok (.iadd, 1) := by decide +kernel
theorem dX8_remove_64 : decode cX8_remove 64 = .ok (.aload_n 0, 1) := by decide +kernel
theorem dX8_remove_65 : decode cX8_remove 65 = .ok (.getfield 15, 3) := by decide +kernel
theorem dX8_remove_68 : decode cX8_remove 68 = .ok (.imul, 1) := by decide +kernel
theorem dX8_remove_69 : decode cX8_remove 69 = .ok (.iload_n 3, 1) := by decide +kernel
theorem dX8_remove_70 : decode cX8_remove 70 = .ok (.iadd, 1) := by decide +kernel
theorem dX8_remove_71 : decode cX8_remove 71 = .ok (.iaload, 1) := by decide +kernel
theorem dX8_remove_72 : decode cX8_remove 72 = .ok (.iastore, 1) := by decide +kernel
theorem dX8_remove_73 : decode cX8_remove 73 = .ok (.iinc 3 1, 3) := by decide +kernel
theorem dX8_remove_76 : decode cX8_remove 76 = .ok (.goto (-39), 3) := by decide +kernel
theorem dX8_remove_79 : decode cX8_remove 79 = .ok (.iinc 2 1, 3) := by decide +kernel
theorem dX8_remove_82 : decode cX8_remove 82 = .ok (.goto (-71), 3) := by decide +kernel
theorem dX8_remove_85 : decode cX8_remove 85 = .ok (.aload_n 0, 1) := by decide +kernel
theorem dX8_remove_86 : decode cX8_remove 86 = .ok (.dup, 1) := by decide +kernel
theorem dX8_remove_87 : decode cX8_remove 87 = .ok (.getfield 25, 3) := by decide +kernel
theorem dX8_remove_90 : decode cX8_remove 90 = .ok (.iconst 1, 1) := by decide +kernel
theorem dX8_remove_91 : decode cX8_remove 91 = .ok (.isub, 1) := by decide +kernel
theorem dX8_remove_92 : decode cX8_remove 92 = .ok (.putfield 25, 3) := by decide +kernel
theorem dX8_remove_95 : decode cX8_remove 95 = .ok (.return_, 1) := by decide +kernel
theorem dX8_lengthOf_0 : decode cX8_lengthOf 0 = .ok (.iconst 0, 1) := by decide +kernel
theorem dX8_lengthOf_1 : decode cX8_lengthOf 1 = .ok (.istore_n 1, 1) := by decide +kernel
theorem dX8_lengthOf_2 : decode cX8_lengthOf 2 = .ok (.iload_n 1, 1) := by decide +kernel
theorem dX8_lengthOf_3 : decode cX8_lengthOf 3 = .ok (.bipush 6, 2) := by decide +kernel
theorem dX8_lengthOf_5 : decode cX8_lengthOf 5 = .ok (.if_icmp .ge 20, 3) := by decide +kernel
theorem dX8_lengthOf_8 : decode cX8_lengthOf 8 = .ok (.iload_n 0, 1) := by decide +kernel
theorem dX8_lengthOf_9 : decode cX8_lengthOf 9 = .ok (.iload_n 1, 1) := by decide +kernel
theorem dX8_lengthOf_10 : decode cX8_lengthOf 10 = .ok (.iconst 5, 1) := by decide +kernel
theorem dX8_lengthOf_11 : decode cX8_lengthOf 11 = .ok (.imul, 1) := by decide +kernel
theorem dX8_lengthOf_12 : decode cX8_lengthOf 12 = .ok (.ishr, 1) := by decide +kernel
theorem dX8_lengthOf_13 : decode cX8_lengthOf 13 = .ok (.bipush 31, 2) := by decide +kernel
theorem dX8_lengthOf_15 : decode cX8_lengthOf 15 = .ok (.iand, 1) := by decide +kernel
theorem dX8_lengthOf_16 : decode cX8_lengthOf 16 = .ok (.ifCond .eq 9, 3) := by decide +kernel
theorem dX8_lengthOf_19 : decode cX8_lengthOf 19 = .ok (.iinc 1 1, 3) := by decide +kernel
theorem dX8_lengthOf_22 : decode cX8_lengthOf 22 = .ok (.goto (-20), 3) := by decide +kernel
theorem dX8_lengthOf_25 : decode cX8_lengthOf 25 = .ok (.iload_n 1, 1) := by decide +kernel
theorem dX8_lengthOf_26 : decode cX8_lengthOf 26 = .ok (.ireturn, 1) := by decide +kernel
theorem dX8_letterOf_0 : decode cX8_letterOf 0 = .ok (.iload_n 1, 1) := by decide +kernel
theorem dX8_letterOf_1 : decode cX8_letterOf 1 = .ok (.ifCond .lt 9, 3) := by decide +kernel
theorem dX8_letterOf_4 : decode cX8_letterOf 4 = .ok (.iload_n 1, 1) := by decide +kernel
theorem dX8_letterOf_5 : decode cX8_letterOf 5 = .ok (.bipush 6, 2) := by decide +kernel
theorem dX8_letterOf_7 : decode cX8_letterOf 7 = .ok (.if_icmp .lt 5, 3) := by decide +kernel
theorem dX8_letterOf_10 : decode cX8_letterOf 10 = .ok (.iconst (-1), 1) := by decide +kernel
theorem dX8_letterOf_11 : decode cX8_letterOf 11 = .ok (.ireturn, 1) := by decide +kernel
theorem dX8_letterOf_12 : decode cX8_letterOf 12 = .ok (.iload_n 0, 1) := by decide +kernel
theorem dX8_letterOf_13 : decode cX8_letterOf 13 = .ok (.iload_n 1, 1) := by decide +kernel
theorem dX8_letterOf_14 : decode cX8_letterOf 14 = .ok (.iconst 5, 1) := by decide +kernel
theorem dX8_letterOf_15 : decode cX8_letterOf 15 = .ok (.imul, 1) := by decide +kernel
theorem dX8_letterOf_16 : decode cX8_letterOf 16 = .ok (.ishr, 1) := by decide +kernel
theorem dX8_letterOf_17 : decode cX8_letterOf 17 = .ok (.bipush 31, 2) := by decide +kernel
theorem dX8_letterOf_19 : decode cX8_letterOf 19 = .ok (.iand, 1) := by decide +kernel
theorem dX8_letterOf_20 : decode cX8_letterOf 20 = .ok (.iconst 1, 1) := by decide +kernel
theorem dX8_letterOf_21 : decode cX8_letterOf 21 = .ok (.isub, 1) := by decide +kernel
theorem dX8_letterOf_22 : decode cX8_letterOf 22 = .ok (.ireturn, 1) := by decide +kernel
theorem dX9_bestSet_0 : decode cX9_bestSet 0 = .ok (.aload_n 0, 1) := by decide +kernel
theorem dX9_bestSet_1 : decode cX9_bestSet 1 = .ok (.iload_n 2, 1) := by decide +kernel
theorem dX9_bestSet_2 : decode cX9_bestSet 2 = .ok (.putfield 33, 3) := by decide +kernel
theorem dX9_bestSet_5 : decode cX9_bestSet 5 = .ok (.aload_n 0, 1) := by decide +kernel
theorem dX9_bestSet_6 : decode cX9_bestSet 6 = .ok (.bipush 12, 2) := by decide +kernel
theorem dX9_bestSet_8 : decode cX9_bestSet 8 = .ok (.aload_n 1, 1) := by decide +kernel
theorem dX9_bestSet_9 : decode cX9_bestSet 9 = .ok (.getfield 37, 3) := by decide +kernel
theorem dX9_bestSet_12 : decode cX9_bestSet 12 = .ok (.getfield 43, 3) := by decide +kernel
theorem dX9_bestSet_15 : decode cX9_bestSet 15 = .ok (.invokestatic 48, 3) := by decide +kernel
theorem dX9_bestSet_18 : decode cX9_bestSet 18 = .ok (.putfield 54, 3) := by decide +kernel
theorem dX9_bestSet_21 : decode cX9_bestSet 21 = .ok (.aload_n 0, 1) := by decide +kernel
theorem dX9_bestSet_22 : decode cX9_bestSet 22 = .ok (.getfield 18, 3) := by decide +kernel
theorem dX9_bestSet_25 : decode cX9_bestSet 25 = .ok (.aload_n 0, 1) := by decide +kernel
theorem dX9_bestSet_26 : decode cX9_bestSet 26 = .ok (.getfield 54, 3) := by decide +kernel
theorem dX9_bestSet_29 : decode cX9_bestSet 29 = .ok (.iconst 0, 1) := by decide +kernel
theorem dX9_bestSet_30 : decode cX9_bestSet 30 = .ok (.iastore, 1) := by decide +kernel
theorem dX9_bestSet_31 : decode cX9_bestSet 31 = .ok (.aload_n 0, 1) := by decide +kernel
theorem dX9_bestSet_32 : decode cX9_bestSet 32 = .ok (.getfield 54, 3) := by decide +kernel
theorem dX9_bestSet_35 : decode cX9_bestSet 35 = .ok (.iconst 1, 1) := by decide +kernel
theorem dX9_bestSet_36 : decode cX9_bestSet 36 = .ok (.isub, 1) := by decide +kernel
theorem dX9_bestSet_37 : decode cX9_bestSet 37 = .ok (.istore 4, 2) := by decide +kernel
theorem dX9_bestSet_39 : decode cX9_bestSet 39 = .ok (.iload 4, 2) := by decide +kernel
theorem dX9_bestSet_41 : decode cX9_bestSet 41 = .ok (.ifCond .lt 88, 3) := by decide +kernel
theorem dX9_bestSet_44 : decode cX9_bestSet 44 = .ok (.iload_n 2, 1) := by decide +kernel
theorem dX9_bestSet_45 : decode cX9_bestSet 45 = .ok (.iload 4, 2) := by decide +kernel
theorem dX9_bestSet_47 : decode cX9_bestSet 47 = .ok (.ishr, 1) := by decide +kernel
theorem dX9_bestSet_48 : decode cX9_bestSet 48 = .ok (.iconst 1, 1) := by decide +kernel
theorem dX9_bestSet_49 : decode cX9_bestSet 49 = .ok (.iand, 1) := by decide +kernel
theorem dX9_bestSet_50 : decode cX9_bestSet 50 = .ok (.ifCond .eq 7, 3) := by decide +kernel
theorem dX9_bestSet_53 : decode cX9_bestSet 53 = .ok (.iconst 1, 1) := by decide +kernel
theorem dX9_bestSet_54 : decode cX9_bestSet 54 = .ok (.goto 4, 3) := by decide +kernel
theorem dX9_bestSet_57 : decode cX9_bestSet 57 = .ok (.iconst 0, 1) := by decide +kernel
theorem dX9_bestSet_58 : decode cX9_bestSet 58 = .ok (.istore 5, 2) := by decide +kernel
theorem dX9_bestSet_60 : decode cX9_bestSet 60 = .ok (.aload_n 0, 1) := by decide +kernel
theorem dX9_bestSet_61 : decode cX9_bestSet 61 = .ok (.getfield 9, 3) := by decide +kernel
theorem dX9_bestSet_64 : decode cX9_bestSet 64 = .ok (.iload 4, 2) := by decide +kernel
theorem dX9_bestSet_66 : decode cX9_bestSet 66 = .ok (.aload_n 1, 1) := by decide +kernel
theorem dX9_bestSet_67 : decode cX9_bestSet 67 = .ok (.iload 4, 2) := by decide +kernel
theorem dX9_bestSet_69 : decode cX9_bestSet 69 = .ok (.invokevirtual 57, 3) := by decide +kernel
theorem dX9_bestSet_72 : decode cX9_bestSet 72 = .ok (.iastore, 1) := by decide +kernel
theorem dX9_bestSet_73 : decode cX9_bestSet 73 = .ok (.aload_n 0, 1) := by decide +kernel
theorem dX9_bestSet_74 : decode cX9_bestSet 74 = .ok (.getfield 15, 3) := by decide +kernel
theorem dX9_bestSet_77 : decode cX9_bestSet 77 = .ok (.iload 4, 2) := by decide +kernel
theorem dX9_bestSet_79 : decode cX9_bestSet 79 = .ok (.aload_n 1, 1) := by decide +kernel
theorem dX9_bestSet_80 : decode cX9_bestSet 80 = .ok (.getfield 37, 3) := by decide +kernel
theorem dX9_bestSet_83 : decode cX9_bestSet 83 = .ok (.iload 4, 2) := by decide +kernel
theorem dX9_bestSet_85 : decode cX9_bestSet 85 = .ok (.iconst 0, 1) := by decide +kernel
theorem dX9_bestSet_86 : decode cX9_bestSet 86 = .ok (.invokevirtual 61, 3) := by decide +kernel
theorem dX9_bestSet_89 : decode cX9_bestSet 89 = .ok (.iastore, 1) := by decide +kernel
theorem dX9_bestSet_90 : decode cX9_bestSet 90 = .ok (.aload_n 0, 1) := by decide +kernel
theorem dX9_bestSet_91 : decode cX9_bestSet 91 = .ok (.getfield 18, 3) := by decide +kernel
theorem dX9_bestSet_94 : decode cX9_bestSet 94 = .ok (.iload 4, 2) := by decide +kernel
theorem dX9_bestSet_96 : decode cX9_bestSet 96 = .ok (.aload_n 0, 1) := by decide +kernel
theorem dX9_bestSet_97 : decode cX9_bestSet 97 = .ok (.getfield 18, 3) := by decide +kernel
theorem dX9_bestSet_100 : decode cX9_bestSet 100 = .ok (.iload 4, 2) := by decide +kernel
theorem dX9_bestSet_102 : decode cX9_bestSet 102 = .ok (.iconst 1, 1) := by decide +kernel
theorem dX9_bestSet_103 : decode cX9_bestSet 103 = .ok (.iadd, 1) := by decide +kernel
theorem dX9_bestSet_104 : decode cX9_bestSet 104 = .ok (.iaload, 1) := by decide +kernel
theorem dX9_bestSet_105 : decode cX9_bestSet 105 = .ok (.iload 5, 2) := by decide +kernel
theorem dX9_bestSet_107 : decode cX9_bestSet 107 = .ok (.ifCond .eq 13, 3) := by decide +kernel
theorem dX9_bestSet_110 : decode cX9_bestSet 110 = .ok (.aload_n 0, 1) := by decide +kernel
theorem dX9_bestSet_111 : decode cX9_bestSet 111 = .ok (.getfield 15, 3) := by decide +kernel
theorem dX9_bestSet_114 : decode cX9_bestSet 114 = .ok (.iload 4, 2) := by decide +kernel
theorem dX9_bestSet_116 : decode cX9_bestSet 116 = .ok (.iaload, 1) := by decide +kernel
theorem dX9_bestSet_117 : decode cX9_bestSet 117 = .ok (.goto 4, 3) := by decide +kernel
theorem dX9_bestSet_120 : decode cX9_bestSet 120 = .ok (.iconst 0, 1) := by decide +kernel
theorem dX9_bestSet_121 : decode cX9_bestSet 121 = .ok (.iadd, 1) := by decide +kernel
theorem dX9_bestSet_122 : decode cX9_bestSet 122 = .ok (.iastore, 1) := by decide +kernel
theorem dX9_bestSet_123 : decode cX9_bestSet 123 = .ok (.iinc 4 (-1), 3) := by decide +kernel
theorem dX9_bestSet_126 : decode cX9_bestSet 126 = .ok (.goto (-87), 3) := by decide +kernel
theorem dX9_bestSet_129 : decode cX9_bestSet 129 = .ok (.aload_n 0, 1) := by decide +kernel
theorem dX9_bestSet_130 : decode cX9_bestSet 130 = .ok (.iconst 0, 1) := by decide +kernel
theorem dX9_bestSet_131 : decode cX9_bestSet 131 = .ok (.putfield 64, 3) := by decide +kernel
theorem dX9_bestSet_134 : decode cX9_bestSet 134 = .ok (.aload_n 0, 1) := by decide +kernel
theorem dX9_bestSet_135 : decode cX9_bestSet 135 = .ok (.iconst 0, 1) := by decide +kernel
theorem dX9_bestSet_136 : decode cX9_bestSet 136 = .ok (.putfield 67, 3) := by decide +kernel
theorem dX9_bestSet_139 : decode cX9_bestSet 139 = .ok (.aload_n 0, 1) := by decide +kernel
theorem dX9_bestSet_140 : decode cX9_bestSet 140 = .ok (.iconst 0, 1) := by decide +kernel
theorem dX9_bestSet_141 : decode cX9_bestSet 141 = .ok (.iconst 0, 1) := by decide +kernel
theorem dX9_bestSet_142 : decode cX9_bestSet 142 = .ok (.iconst 0, 1) := by decide +kernel
theorem dX9_bestSet_143 : decode cX9_bestSet 143 = .ok (.iload_n 3, 1) := by decide +kernel
theorem dX9_bestSet_144 : decode cX9_bestSet 144 = .ok (.invokevirtual 70, 3) := by decide +kernel
theorem dX9_bestSet_147 : decode cX9_bestSet 147 = .ok (.aload_n 0, 1) := by decide +kernel
theorem dX9_bestSet_148 : decode cX9_bestSet 148 = .ok (.getfield 64, 3) := by decide +kernel
theorem dX9_bestSet_151 : decode cX9_bestSet 151 = .ok (.ireturn, 1) := by decide +kernel
theorem dX9_choose_0 : decode cX9_choose 0 = .ok (.iload_n 1, 1) := by decide +kernel
theorem dX9_choose_1 : decode cX9_choose 1 = .ok (.ifCond .lt 11, 3) := by decide +kernel
theorem dX9_choose_4 : decode cX9_choose 4 = .ok (.iload_n 1, 1) := by decide +kernel
theorem dX9_choose_5 : decode cX9_choose 5 = .ok (.aload_n 0, 1) := by decide +kernel
theorem dX9_choose_6 : decode cX9_choose 6 = .ok (.getfield 54, 3) := by decide +kernel
theorem dX9_choose_9 : decode cX9_choose 9 = .ok (.if_icmp .lt 10, 3) := by decide +kernel
theorem dX9_choose_12 : decode cX9_choose 12 = .ok (.aload_n 0, 1) := by decide +kernel
theorem dX9_choose_13 : decode cX9_choose 13 = .ok (.iload_n 2, 1) := by decide +kernel
theorem dX9_choose_14 : decode cX9_choose 14 = .ok (.iload_n 3, 1) := by decide +kernel
theorem dX9_choose_15 : decode cX9_choose 15 = .ok (.invokevirtual 74, 3) := by decide +kernel
theorem dX9_choose_18 : decode cX9_choose 18 = .ok (.return_, 1) := by decide +kernel
theorem dX9_choose_19 : decode cX9_choose 19 = .ok (.iload_n 3, 1) := by decide +kernel
theorem dX9_choose_20 : decode cX9_choose 20 = .ok (.aload_n 0, 1) := by decide +kernel
theorem dX9_choose_21 : decode cX9_choose 21 = .ok (.getfield 18, 3) := by decide +kernel
theorem dX9_choose_24 : decode cX9_choose 24 = .ok (.iload_n 1, 1) := by decide +kernel
theorem dX9_choose_25 : decode cX9_choose 25 = .ok (.iaload, 1) := by decide +kernel
theorem dX9_choose_26 : decode cX9_choose 26 = .ok (.iadd, 1) := by decide +kernel
theorem dX9_choose_27 : decode cX9_choose 27 = .ok (.aload_n 0, 1) := by decide +kernel
theorem dX9_choose_28 : decode cX9_choose 28 = .ok (.getfield 67, 3) := by decide +kernel
theorem dX9_choose_31 : decode cX9_choose 31 = .ok (.if_icmp .ge 4, 3) := by decide +kernel
theorem dX9_choose_34 : decode cX9_choose 34 = .ok (.return_, 1) := by decide +kernel
theorem dX9_choose_35 : decode cX9_choose 35 = .ok (.aload_n 0, 1) := by decide +kernel
theorem dX9_choose_36 : decode cX9_choose 36 = .ok (.getfield 33, 3) := by decide +kernel
theorem dX9_choose_39 : decode cX9_choose 39 = .ok (.iload_n 1, 1) := by decide +kernel
theorem dX9_choose_40 : decode cX9_choose 40 = .ok (.ishr, 1) := by decide +kernel
theorem dX9_choose_41 : decode cX9_choose 41 = .ok (.iconst 1, 1) := by decide +kernel
theorem dX9_choose_42 : decode cX9_choose 42 = .ok (.iand, 1) := by decide +kernel
theorem dX9_choose_43 : decode cX9_choose 43 = .ok (.ifCond .eq 43, 3) := by decide +kernel
theorem dX9_choose_46 : decode cX9_choose 46 = .ok (.aload_n 0, 1) := by decide +kernel
theorem dX9_choose_47 : decode cX9_choose 47 = .ok (.getfield 9, 3) := by decide +kernel
theorem dX9_choose_50 : decode cX9_choose 50 = .ok (.iload_n 1, 1) := by decide +kernel
theorem dX9_choose_51 : decode cX9_choose 51 = .ok (.iaload, 1) := by decide +kernel
theorem dX9_choose_52 : decode cX9_choose 52 = .ok (.iload 4, 2) := by decide +kernel
theorem dX9_choose_54 : decode cX9_choose 54 = .ok (.if_icmp .gt 32, 3) := by decide +kernel
theorem dX9_choose_57 : decode cX9_choose 57 = .ok (.aload_n 0, 1) := by decide +kernel
theorem dX9_choose_58 : decode cX9_choose 58 = .ok (.iload_n 1, 1) := by decide +kernel
theorem dX9_choose_59 : decode cX9_choose 59 = .ok (.iconst 1, 1) := by decide +kernel
theorem dX9_choose_60 : decode cX9_choose 60 = .ok (.iadd, 1) := by decide +kernel
theorem dX9_choose_61 : decode cX9_choose 61 = .ok (.iload_n 2, 1) := by decide +kernel
theorem dX9_choose_62 : decode cX9_choose 62 = .ok (.iconst 1, 1) := by decide +kernel
theorem dX9_choose_63 : decode cX9_choose 63 = .ok (.iload_n 1, 1) := by decide +kernel
theorem dX9_choose_64 : decode cX9_choose 64 = .ok (.ishl, 1) := by decide +kernel
theorem dX9_choose_65 : decode cX9_choose 65 = .ok (.ior, 1) := by decide +kernel
theorem dX9_choose_66 : decode cX9_choose 66 = .ok (.iload_n 3, 1) := by decide +kernel
theorem dX9_choose_67 : decode cX9_choose 67 = .ok (.aload_n 0, 1) := by decide +kernel
theorem dX9_choose_68 : decode cX9_choose 68 = .ok (.getfield 15, 3) := by decide +kernel
theorem dX9_choose_71 : decode cX9_choose 71 = .ok (.iload_n 1, 1) := by decide +kernel
theorem dX9_choose_72 : decode cX9_choose 72 = .ok (.iaload, 1) := by decide +kernel
theorem dX9_choose_73 : decode cX9_choose 73 = .ok (.iadd, 1) := by decide +kernel
theorem dX9_choose_74 : decode cX9_choose 74 = .ok (.iload 4, 2) := by decide +kernel
theorem dX9_choose_76 : decode cX9_choose 76 = .ok (.aload_n 0, 1) := by decide +kernel
theorem dX9_choose_77 : decode cX9_choose 77 = .ok (.getfield 9, 3) := by decide +kernel
theorem dX9_choose_80 : decode cX9_choose 80 = .ok (.iload_n 1, 1) := by decide +kernel
theorem dX9_choose_81 : decode cX9_choose 81 = .ok (.iaload, 1) := by decide +kernel
theorem dX9_choose_82 : decode cX9_choose 82 = .ok (.isub, 1) := by decide +kernel
theorem dX9_choose_83 : decode cX9_choose 83 = .ok (.invokevirtual 70, 3) := by decide +kernel
theorem dX9_choose_86 : decode cX9_choose 86 = .ok (.aload_n 0, 1) := by decide +kernel
theorem dX9_choose_87 : decode cX9_choose 87 = .ok (.iload_n 1, 1) := by decide +kernel
theorem dX9_choose_88 : decode cX9_choose 88 = .ok (.iconst 1, 1) := by decide +kernel
theorem dX9_choose_89 : decode cX9_choose 89 = .ok (.iadd, 1) := by decide +kernel
theorem dX9_choose_90 : decode cX9_choose 90 = .ok (.iload_n 2, 1) := by decide +kernel
theorem dX9_choose_91 : decode cX9_choose 91 = .ok (.iload_n 3, 1) := by decide +kernel
theorem dX9_choose_92 : decode cX9_choose 92 = .ok (.iload 4, 2) := by decide +kernel
theorem dX9_choose_94 : decode cX9_choose 94 = .ok (.invokevirtual 70, 3) := by decide +kernel
theorem dX9_choose_97 : decode cX9_choose 97 = .ok (.return_, 1) := by decide +kernel
theorem dX9_compare_0 : decode cX9_compare 0 = .ok (.aload_n 0, 1) := by decide +kernel
theorem dX9_compare_1 : decode cX9_compare 1 = .ok (.getfield 64, 3) := by decide +kernel
theorem dX9_compare_4 : decode cX9_compare 4 = .ok (.invokestatic 78, 3) := by decide +kernel
theorem dX9_compare_7 : decode cX9_compare 7 = .ok (.iload_n 1, 1) := by decide +kernel
theorem dX9_compare_8 : decode cX9_compare 8 = .ok (.invokestatic 78, 3) := by decide +kernel
theorem dX9_compare_11 : decode cX9_compare 11 = .ok (.isub, 1) := by decide +kernel
theorem dX9_compare_12 : decode cX9_compare 12 = .ok (.istore_n 3, 1) := by decide +kernel
theorem dX9_compare_13 : decode cX9_compare 13 = .ok (.iload_n 2, 1) := by decide +kernel
theorem dX9_compare_14 : decode cX9_compare 14 = .ok (.aload_n 0, 1) := by decide +kernel
theorem dX9_compare_15 : decode cX9_compare 15 = .ok (.getfield 67, 3) := by decide +kernel
theorem dX9_compare_18 : decode cX9_compare 18 = .ok (.if_icmp .gt 27, 3) := by decide +kernel
theorem dX9_compare_21 : decode cX9_compare 21 = .ok (.iload_n 2, 1) := by decide +kernel
theorem dX9_compare_22 : decode cX9_compare 22 = .ok (.aload_n 0, 1) := by decide +kernel
theorem dX9_compare_23 : decode cX9_compare 23 = .ok (.getfield 67, 3) := by decide +kernel
theorem dX9_compare_26 : decode cX9_compare 26 = .ok (.if_icmp .ne 29, 3) := by decide +kernel
theorem dX9_compare_29 : decode cX9_compare 29 = .ok (.iload_n 3, 1) := by decide +kernel
theorem dX9_compare_30 : decode cX9_compare 30 = .ok (.ifCond .gt 15, 3) := by decide +kernel
theorem dX9_compare_33 : decode cX9_compare 33 = .ok (.iload_n 3, 1) := by decide +kernel
theorem dX9_compare_34 : decode cX9_compare 34 = .ok (.ifCond .ne 21, 3) := by decide +kernel
theorem dX9_compare_37 : decode cX9_compare 37 = .ok (.iload_n 1, 1) := by decide +kernel
theorem dX9_compare_38 : decode cX9_compare 38 = .ok (.aload_n 0, 1) := by decide +kernel
theorem dX9_compare_39 : decode cX9_compare 39 = .ok (.getfield 64, 3) := by decide +kernel
theorem dX9_compare_42 : decode cX9_compare 42 = .ok (.if_icmp .ge 13, 3) := by decide +kernel
theorem dX9_compare_45 : decode cX9_compare 45 = .ok (.aload_n 0, 1) := by decide +kernel
theorem dX9_compare_46 : decode cX9_compare 46 = .ok (.iload_n 1, 1) := by decide +kernel
theorem dX9_compare_47 : decode cX9_compare 47 = .ok (.putfield 64, 3) := by decide +kernel
theorem dX9_compare_50 : decode cX9_compare 50 = .ok (.aload_n 0, 1) := by decide +kernel
theorem dX9_compare_51 : decode cX9_compare 51 = .ok (.iload_n 2, 1) := by decide +kernel
theorem dX9_compare_52 : decode cX9_compare 52 = .ok (.putfield 67, 3) := by decide +kernel
theorem dX9_compare_55 : decode cX9_compare 55 = .ok (.return_, 1) := by decide +kernel
theorem dX9_seekBullets_0 : decode cX9_seekBullets 0 = .ok (.iconst 0, 1) := by decide +kernel
theorem dX9_seekBullets_1 : decode cX9_seekBullets 1 = .ok (.bipush 16, 2) := by decide +kernel
theorem dX9_seekBullets_3 : decode cX9_seekBullets 3 = .ok (.iload_n 2, 1) := by decide +kernel
theorem dX9_seekBullets_4 : decode cX9_seekBullets 4 = .ok (.aload_n 1, 1) := by decide +kernel
theorem dX9_seekBullets_5 : decode cX9_seekBullets 5 = .ok (.arraylength, 1) := by decide +kernel
theorem dX9_seekBullets_6 : decode cX9_seekBullets 6 = .ok (.invokestatic 48, 3) := by decide +kernel
theorem dX9_seekBullets_9 : decode cX9_seekBullets 9 = .ok (.invokestatic 48, 3) := by decide +kernel
theorem dX9_seekBullets_12 : decode cX9_seekBullets 12 = .ok (.invokestatic 83, 3) := by decide +kernel
theorem dX9_seekBullets_15 : decode cX9_seekBullets 15 = .ok (.istore 4, 2) := by decide +kernel
theorem dX9_seekBullets_17 : decode cX9_seekBullets 17 = .ok (.aload_n 0, 1) := by decide +kernel
theorem dX9_seekBullets_18 : decode cX9_seekBullets 18 = .ok (.getfield 24, 3) := by decide +kernel
theorem dX9_seekBullets_21 : decode cX9_seekBullets 21 = .ok (.iconst 0, 1) := by decide +kernel
theorem dX9_seekBullets_22 : decode cX9_seekBullets 22 = .ok (.iconst 0, 1) := by decide +kernel
theorem dX9_seekBullets_23 : decode cX9_seekBullets 23 = .ok (.iastore, 1) := by decide +kernel
theorem dX9_seekBullets_24 : decode cX9_seekBullets 24 = .ok (.iconst 0, 1) := by decide +kernel
theorem dX9_seekBullets_25 : decode cX9_seekBullets 25 = .ok (.istore 5, 2) := by decide +kernel
theorem dX9_seekBullets_27 : decode cX9_seekBullets 27 = .ok (.iload 5, 2) := by decide +kernel
theorem dX9_seekBullets_29 : decode cX9_seekBullets 29 = .ok (.iload 4, 2) := by decide +kernel
theorem dX9_seekBullets_31 : decode cX9_seekBullets 31 = .ok (.if_icmp .ge 41, 3) := by decide +kernel
theorem dX9_seekBullets_34 : decode cX9_seekBullets 34 = .ok (.aload_n 0, 1) := by decide +kernel
theorem dX9_seekBullets_35 : decode cX9_seekBullets 35 = .ok (.getfield 21, 3) := by decide +kernel
theorem dX9_seekBullets_38 : decode cX9_seekBullets 38 = .ok (.iload 5, 2) := by decide +kernel
theorem dX9_seekBullets_40 : decode cX9_seekBullets 40 = .ok (.aload_n 1, 1) := by decide +kernel
theorem dX9_seekBullets_41 : decode cX9_seekBullets 41 = .ok (.iload 5, 2) := by decide +kernel
theorem dX9_seekBullets_43 : decode cX9_seekBullets 43 = .ok (.iaload, 1) := by decide +kernel
theorem dX9_seekBullets_44 : decode cX9_seekBullets 44 = .ok (.iastore, 1) := by decide +kernel
theorem dX9_seekBullets_45 : decode cX9_seekBullets 45 = .ok (.aload_n 0, 1) := by decide +kernel
theorem dX9_seekBullets_46 : decode cX9_seekBullets 46 = .ok (.getfield 24, 3) := by decide +kernel
theorem dX9_seekBullets_49 : decode cX9_seekBullets 49 = .ok (.iload 5, 2) := by decide +kernel
theorem dX9_seekBullets_51 : decode cX9_seekBullets 51 = .ok (.iconst 1, 1) := by decide +kernel
theorem dX9_seekBullets_52 : decode cX9_seekBullets 52 = .ok (.iadd, 1) := by decide +kernel
theorem dX9_seekBullets_53 : decode cX9_seekBullets 53 = .ok (.aload_n 0, 1) := by decide +kernel
theorem dX9_seekBullets_54 : decode cX9_seekBullets 54 = .ok (.getfield 24, 3) := by decide +kernel
theorem dX9_seekBullets_57 : decode cX9_seekBullets 57 = .ok (.iload 5, 2) := by decide +kernel
theorem dX9_seekBullets_59 : decode cX9_seekBullets 59 = .ok (.iaload, 1) := by decide +kernel
theorem dX9_seekBullets_60 : decode cX9_seekBullets 60 = .ok (.aload_n 1, 1) := by decide +kernel
theorem dX9_seekBullets_61 : decode cX9_seekBullets 61 = .ok (.iload 5, 2) := by decide +kernel
theorem dX9_seekBullets_63 : decode cX9_seekBullets 63 = .ok (.iaload, 1) := by decide +kernel
theorem dX9_seekBullets_64 : decode cX9_seekBullets 64 = .ok (.iadd, 1) := by decide +kernel
theorem dX9_seekBullets_65 : decode cX9_seekBullets 65 = .ok (.iastore, 1) := by decide +kernel
theorem dX9_seekBullets_66 : decode cX9_seekBullets 66 = .ok (.iinc 5 1, 3) := by decide +kernel
theorem dX9_seekBullets_69 : decode cX9_seekBullets 69 = .ok (.goto (-42), 3) := by decide +kernel
theorem dX9_seekBullets_72 : decode cX9_seekBullets 72 = .ok (.aload_n 0, 1) := by decide +kernel
theorem dX9_seekBullets_73 : decode cX9_seekBullets 73 = .ok (.iconst 0, 1) := by decide +kernel
theorem dX9_seekBullets_74 : decode cX9_seekBullets 74 = .ok (.putfield 86, 3) := by decide +kernel
theorem dX9_seekBullets_77 : decode cX9_seekBullets 77 = .ok (.aload_n 0, 1) := by decide +kernel
theorem dX9_seekBullets_78 : decode cX9_seekBullets 78 = .ok (.iconst (-1), 1) := by decide +kernel
theorem dX9_seekBullets_79 : decode cX9_seekBullets 79 = .ok (.putfield 89, 3) := by decide +kernel
theorem dX9_seekBullets_82 : decode cX9_seekBullets 82 = .ok (.aload_n 0, 1) := by decide +kernel
theorem dX9_seekBullets_83 : decode cX9_seekBullets 83 = .ok (.iload 4, 2) := by decide +kernel
theorem dX9_seekBullets_85 : decode cX9_seekBullets 85 = .ok (.iload_n 3, 1) := by decide +kernel
theorem dX9_seekBullets_86 : decode cX9_seekBullets 86 = .ok (.iconst 0, 1) := by decide +kernel
theorem dX9_seekBullets_87 : decode cX9_seekBullets 87 = .ok (.invokevirtual 92, 3) := by decide +kernel
theorem dX9_seekBullets_90 : decode cX9_seekBullets 90 = .ok (.return_, 1) := by decide +kernel
theorem dX9_collect_0 : decode cX9_collect 0 = .ok (.iload_n 2, 1) := by decide +kernel
theorem dX9_collect_1 : decode cX9_collect 1 = .ok (.ifCond .ne 34, 3) := by decide +kernel
theorem dX9_collect_4 : decode cX9_collect 4 = .ok (.aload_n 0, 1) := by decide +kernel
theorem dX9_collect_5 : decode cX9_collect 5 = .ok (.dup, 1) := by decide +kernel
theorem dX9_collect_6 : decode cX9_collect 6 = .ok (.getfield 86, 3) := by decide +kernel
theorem dX9_collect_9 : decode cX9_collect 9 = .ok (.iconst 1, 1) := by decide +kernel
theorem dX9_collect_10 : decode cX9_collect 10 = .ok (.iadd, 1) := by decide +kernel
theorem dX9_collect_11 : decode cX9_collect 11 = .ok (.putfield 86, 3) := by decide +kernel
theorem dX9_collect_14 : decode cX9_collect 14 = .ok (.aload_n 0, 1) := by decide +kernel
theorem dX9_collect_15 : decode cX9_collect 15 = .ok (.aload_n 0, 1) := by decide +kernel
theorem dX9_collect_16 : decode cX9_collect 16 = .ok (.getfield 89, 3) := by decide +kernel
theorem dX9_collect_19 : decode cX9_collect 19 = .ok (.iconst (-1), 1) := by decide +kernel
theorem dX9_collect_20 : decode cX9_collect 20 = .ok (.if_icmp .ne 7, 3) := by decide +kernel
theorem dX9_collect_23 : decode cX9_collect 23 = .ok (.iload_n 3, 1) := by decide +kernel
theorem dX9_collect_24 : decode cX9_collect 24 = .ok (.goto 7, 3) := by decide +kernel
theorem dX9_collect_27 : decode cX9_collect 27 = .ok (.aload_n 0, 1) := by decide +kernel
theorem dX9_collect_28 : decode cX9_collect 28 = .ok (.getfield 89, 3) := by decide +kernel
theorem dX9_collect_31 : decode cX9_collect 31 = .ok (.putfield 89, 3) := by decide +kernel
theorem dX9_collect_34 : decode cX9_collect 34 = .ok (.return_, 1) := by decide +kernel
theorem dX9_collect_35 : decode cX9_collect 35 = .ok (.iload_n 1, 1) := by decide +kernel
theorem dX9_collect_36 : decode cX9_collect 36 = .ok (.ifCond .le 23, 3) := by decide +kernel
theorem dX9_collect_39 : decode cX9_collect 39 = .ok (.iload_n 1, 1) := by decide +kernel
theorem dX9_collect_40 : decode cX9_collect 40 = .ok (.bipush 16, 2) := by decide +kernel
theorem dX9_collect_42 : decode cX9_collect 42 = .ok (.if_icmp .gt 17, 3) := by decide +kernel
theorem dX9_collect_45 : decode cX9_collect 45 = .ok (.iload_n 2, 1) := by decide +kernel
theorem dX9_collect_46 : decode cX9_collect 46 = .ok (.ifCond .lt 13, 3) := by decide +kernel
theorem dX9_collect_49 : decode cX9_collect 49 = .ok (.aload_n 0, 1) := by decide +kernel
theorem dX9_collect_50 : decode cX9_collect 50 = .ok (.getfield 24, 3) := by decide +kernel
theorem dX9_collect_53 : decode cX9_collect 53 = .ok (.iload_n 1, 1) := by decide +kernel
theorem dX9_collect_54 : decode cX9_collect 54 = .ok (.iaload, 1) := by decide +kernel
theorem dX9_collect_55 : decode cX9_collect 55 = .ok (.iload_n 2, 1) := by decide +kernel
theorem dX9_collect_56 : decode cX9_collect 56 = .ok (.if_icmp .ge 4, 3) := by decide +kernel
theorem dX9_collect_59 : decode cX9_collect 59 = .ok (.return_, 1) := by decide +kernel
theorem dX9_collect_60 : decode cX9_collect 60 = .ok (.iload_n 1, 1) := by decide +kernel
theorem dX9_collect_61 : decode cX9_collect 61 = .ok (.iconst 1, 1) := by decide +kernel
theorem dX9_collect_62 : decode cX9_collect 62 = .ok (.isub, 1) := by decide +kernel
theorem dX9_collect_63 : decode cX9_collect 63 = .ok (.istore 4, 2) := by decide +kernel
theorem dX9_collect_65 : decode cX9_collect 65 = .ok (.aload_n 0, 1) := by decide +kernel
theorem dX9_collect_66 : decode cX9_collect 66 = .ok (.iload 4, 2) := by decide +kernel
theorem dX9_collect_68 : decode cX9_collect 68 = .ok (.iload_n 2, 1) := by decide +kernel
theorem dX9_collect_69 : decode cX9_collect 69 = .ok (.iload_n 3, 1) := by decide +kernel
theorem dX9_collect_70 : decode cX9_collect 70 = .ok (.invokevirtual 92, 3) := by decide +kernel
theorem dX9_collect_73 : decode cX9_collect 73 = .ok (.aload_n 0, 1) := by decide +kernel
theorem dX9_collect_74 : decode cX9_collect 74 = .ok (.iload 4, 2) := by decide +kernel
theorem dX9_collect_76 : decode cX9_collect 76 = .ok (.iload_n 2, 1) := by decide +kernel
theorem dX9_collect_77 : decode cX9_collect 77 = .ok (.aload_n 0, 1) := by decide +kernel
theorem dX9_collect_78 : decode cX9_collect 78 = .ok (.getfield 21, 3) := by decide +kernel
theorem dX9_collect_81 : decode cX9_collect 81 = .ok (.iload 4, 2) := by decide +kernel
theorem dX9_collect_83 : decode cX9_collect 83 = .ok (.iaload, 1) := by decide +kernel
theorem dX9_collect_84 : decode cX9_collect 84 = .ok (.isub, 1) := by decide +kernel
theorem dX9_collect_85 : decode cX9_collect 85 = .ok (.iload_n 3, 1) := by decide +kernel
theorem dX9_collect_86 : decode cX9_collect 86 = .ok (.iconst 1, 1) := by decide +kernel
theorem dX9_collect_87 : decode cX9_collect 87 = .ok (.iload 4, 2) := by decide +kernel
theorem dX9_collect_89 : decode cX9_collect 89 = .ok (.ishl, 1) := by decide +kernel
theorem dX9_collect_90 : decode cX9_collect 90 = .ok (.ior, 1) := by decide +kernel
theorem dX9_collect_91 : decode cX9_collect 91 = .ok (.invokevirtual 92, 3) := by decide +kernel
theorem dX9_collect_94 : decode cX9_collect 94 = .ok (.return_, 1) := by decide +kernel
theorem dX9_fewestGroups_0 : decode cX9_fewestGroups 0 = .ok (.aload_n 0, 1) := by decide +kernel
theorem dX9_fewestGroups_1 : decode cX9_fewestGroups 1 = .ok (.iconst 0, 1) := by decide +kernel
theorem dX9_fewestGroups_2 : decode cX9_fewestGroups 2 = .ok (.putfield 54, 3) := by decide +kernel
theorem dX9_fewestGroups_5 : decode cX9_fewestGroups 5 = .ok (.aload_n 0, 1) := by decide +kernel
theorem dX9_fewestGroups_6 : decode cX9_fewestGroups 6 = .ok (.iload_n 3, 1) := by decide +kernel
theorem dX9_fewestGroups_7 : decode cX9_fewestGroups 7 = .ok (.putfield 96, 3) := by decide +kernel
theorem dX9_fewestGroups_10 : decode cX9_fewestGroups 10 = .ok (.iconst 0, 1) := by decide +kernel
theorem dX9_fewestGroups_11 : decode cX9_fewestGroups 11 = .ok (.istore 4, 2) := by decide +kernel
theorem dX9_fewestGroups_13 : decode cX9_fewestGroups 13 = .ok (.iload 4, 2) := by decide +kernel
theorem dX9_fewestGroups_15 : decode cX9_fewestGroups 15 = .ok (.bipush 8, 2) := by decide +kernel
theorem dX9_fewestGroups_17 : decode cX9_fewestGroups 17 = .ok (.if_icmp .ge 55, 3) := by decide +kernel
theorem dX9_fewestGroups_20 : decode cX9_fewestGroups 20 = .ok (.iload_n 2, 1) := by decide +kernel
theorem dX9_fewestGroups_21 : decode cX9_fewestGroups 21 = .ok (.iload 4, 2) := by decide +kernel
theorem dX9_fewestGroups_23 : decode cX9_fewestGroups 23 = .ok (.ishr, 1) := by decide +kernel
theorem dX9_fewestGroups_24 : decode cX9_fewestGroups 24 = .ok (.iconst 1, 1) := by decide +kernel
theorem dX9_fewestGroups_25 : decode cX9_fewestGroups 25 = .ok (.iand, 1) := by decide +kernel
theorem dX9_fewestGroups_26 : decode cX9_fewestGroups 26 = .ok (.ifCond .eq 40, 3) := by decide +kernel
theorem dX9_fewestGroups_29 : decode cX9_fewestGroups 29 = .ok (.aload_n 1, 1) := by decide +kernel
theorem dX9_fewestGroups_30 : decode cX9_fewestGroups 30 = .ok (.iload 4, 2) := by decide +kernel
theorem dX9_fewestGroups_32 : decode cX9_fewestGroups 32 = .ok (.invokevirtual 99, 3) := by decide +kernel
theorem dX9_fewestGroups_35 : decode cX9_fewestGroups 35 = .ok (.istore 5, 2) := by decide +kernel
theorem dX9_fewestGroups_37 : decode cX9_fewestGroups 37 = .ok (.iload 5, 2) := by decide +kernel
theorem dX9_fewestGroups_39 : decode cX9_fewestGroups 39 = .ok (.iload_n 3, 1) := by decide +kernel
theorem dX9_fewestGroups_40 : decode cX9_fewestGroups 40 = .ok (.if_icmp .le 5, 3) := by decide +kernel
theorem dX9_fewestGroups_43 : decode cX9_fewestGroups 43 = .ok (.iconst (-1), 1) := by decide +kernel
theorem dX9_fewestGroups_44 : decode cX9_fewestGroups 44 = .ok (.ireturn, 1) := by decide +kernel
theorem dX9_fewestGroups_45 : decode cX9_fewestGroups 45 = .ok (.aload_n 0, 1) := by decide +kernel
theorem dX9_fewestGroups_46 : decode cX9_fewestGroups 46 = .ok (.getfield 27, 3) := by decide +kernel
theorem dX9_fewestGroups_49 : decode cX9_fewestGroups 49 = .ok (.aload_n 0, 1) := by decide +kernel
theorem dX9_fewestGroups_50 : decode cX9_fewestGroups 50 = .ok (.getfield 54, 3) := by decide +kernel
theorem dX9_fewestGroups_53 : decode cX9_fewestGroups 53 = .ok (.iload 5, 2) := by decide +kernel
theorem dX9_fewestGroups_55 : decode cX9_fewestGroups 55 = .ok (.iastore, 1) := by decide +kernel
theorem dX9_fewestGroups_56 : decode cX9_fewestGroups 56 = .ok (.aload_n 0, 1) := by decide +kernel
theorem dX9_fewestGroups_57 : decode cX9_fewestGroups 57 = .ok (.dup, 1) := by decide +kernel
theorem dX9_fewestGroups_58 : decode cX9_fewestGroups 58 = .ok (.getfield 54, 3) := by decide +kernel
theorem dX9_fewestGroups_61 : decode cX9_fewestGroups 61 = .ok (.iconst 1, 1) := by decide +kernel
theorem dX9_fewestGroups_62 : decode cX9_fewestGroups 62 = .ok (.iadd, 1) := by decide +kernel
theorem dX9_fewestGroups_63 : decode cX9_fewestGroups 63 = .ok (.putfield 54, 3) := by decide +kernel
theorem dX9_fewestGroups_66 : decode cX9_fewestGroups 66 = .ok (.iinc 4 1, 3) := by decide +kernel
theorem dX9_fewestGroups_69 : decode cX9_fewestGroups 69 = .ok (.goto (-56), 3) := by decide +kernel
theorem dX9_fewestGroups_72 : decode cX9_fewestGroups 72 = .ok (.aload_n 0, 1) := by decide +kernel
theorem dX9_fewestGroups_73 : decode cX9_fewestGroups 73 = .ok (.aload_n 0, 1) := by decide +kernel
theorem dX9_fewestGroups_74 : decode cX9_fewestGroups 74 = .ok (.getfield 54, 3) := by decide +kernel
theorem dX9_fewestGroups_77 : decode cX9_fewestGroups 77 = .ok (.putfield 104, 3) := by decide +kernel
theorem dX9_fewestGroups_80 : decode cX9_fewestGroups 80 = .ok (.aload_n 0, 1) := by decide +kernel
theorem dX9_fewestGroups_81 : decode cX9_fewestGroups 81 = .ok (.iconst 0, 1) := by decide +kernel
theorem dX9_fewestGroups_82 : decode cX9_fewestGroups 82 = .ok (.iconst 0, 1) := by decide +kernel
theorem dX9_fewestGroups_83 : decode cX9_fewestGroups 83 = .ok (.invokevirtual 107, 3) := by decide +kernel
theorem dX9_fewestGroups_86 : decode cX9_fewestGroups 86 = .ok (.aload_n 0, 1) := by decide +kernel
theorem dX9_fewestGroups_87 : decode cX9_fewestGroups 87 = .ok (.getfield 104, 3) := by decide +kernel
theorem dX9_fewestGroups_90 : decode cX9_fewestGroups 90 = .ok (.ireturn, 1) := by decide +kernel
theorem dX9_place_0 : decode cX9_place 0 = .ok (.iload_n 1, 1) := by decide +kernel
theorem dX9_place_1 : decode cX9_place 1 = .ok (.ifCond .lt 17, 3) := by decide +kernel
theorem dX9_place_4 : decode cX9_place 4 = .ok (.iload_n 1, 1) := by decide +kernel
theorem dX9_place_5 : decode cX9_place 5 = .ok (.aload_n 0, 1) := by decide +kernel
theorem dX9_place_6 : decode cX9_place 6 = .ok (.getfield 54, 3) := by decide +kernel
theorem dX9_place_9 : decode cX9_place 9 = .ok (.if_icmp .ge 9, 3) := by decide +kernel
theorem dX9_place_12 : decode cX9_place 12 = .ok (.iload_n 1, 1) := by decide +kernel
theorem dX9_place_13 : decode cX9_place 13 = .ok (.bipush 8, 2) := by decide +kernel
theorem dX9_place_15 : decode cX9_place 15 = .ok (.if_icmp .lt 16, 3) := by decide +kernel
theorem dX9_place_18 : decode cX9_place 18 = .ok (.aload_n 0, 1) := by decide +kernel
theorem dX9_place_19 : decode cX9_place 19 = .ok (.aload_n 0, 1) := by decide +kernel
theorem dX9_place_20 : decode cX9_place 20 = .ok (.getfield 104, 3) := by decide +kernel
theorem dX9_place_23 : decode cX9_place 23 = .ok (.iload_n 2, 1) := by decide +kernel
theorem dX9_place_24 : decode cX9_place 24 = .ok (.invokestatic 48, 3) := by decide +kernel
theorem dX9_place_27 : decode cX9_place 27 = .ok (.putfield 104, 3) := by decide +kernel
theorem dX9_place_30 : decode cX9_place 30 = .ok (.return_, 1) := by decide +kernel
theorem dX9_place_31 : decode cX9_place 31 = .ok (.iconst 0, 1) := by decide +kernel
theorem dX9_place_32 : decode cX9_place 32 = .ok (.istore_n 3, 1) := by decide +kernel
theorem dX9_place_33 : decode cX9_place 33 = .ok (.iload_n 3, 1) := by decide +kernel
theorem dX9_place_34 : decode cX9_place 34 = .ok (.iload_n 2, 1) := by decide +kernel
theorem dX9_place_35 : decode cX9_place 35 = .ok (.if_icmp .ge 73, 3) := by decide +kernel
theorem dX9_place_38 : decode cX9_place 38 = .ok (.iload_n 3, 1) := by decide +kernel
theorem dX9_place_39 : decode cX9_place 39 = .ok (.bipush 8, 2) := by decide +kernel
theorem dX9_place_41 : decode cX9_place 41 = .ok (.if_icmp .ge 67, 3) := by decide +kernel
theorem dX9_place_44 : decode cX9_place 44 = .ok (.aload_n 0, 1) := by decide +kernel
theorem dX9_place_45 : decode cX9_place 45 = .ok (.getfield 30, 3) := by decide +kernel
theorem dX9_place_48 : decode cX9_place 48 = .ok (.iload_n 3, 1) := by decide +kernel
theorem dX9_place_49 : decode cX9_place 49 = .ok (.iaload, 1) := by decide +kernel
theorem dX9_place_50 : decode cX9_place 50 = .ok (.aload_n 0, 1) := by decide +kernel
theorem dX9_place_51 : decode cX9_place 51 = .ok (.getfield 27, 3) := by decide +kernel
theorem dX9_place_54 : decode cX9_place 54 = .ok (.iload_n 1, 1) := by decide +kernel
theorem dX9_place_55 : decode cX9_place 55 = .ok (.iaload, 1) := by decide +kernel
theorem dX9_place_56 : decode cX9_place 56 = .ok (.iadd, 1) := by decide +kernel
theorem dX9_place_57 : decode cX9_place 57 = .ok (.aload_n 0, 1) := by decide +kernel
theorem dX9_place_58 : decode cX9_place 58 = .ok (.getfield 96, 3) := by decide +kernel
theorem dX9_place_61 : decode cX9_place 61 = .ok (.if_icmp .gt 41, 3) := by decide +kernel
theorem dX9_place_64 : decode cX9_place 64 = .ok (.aload_n 0, 1) := by decide +kernel
theorem dX9_place_65 : decode cX9_place 65 = .ok (.getfield 30, 3) := by decide +kernel
theorem dX9_place_68 : decode cX9_place 68 = .ok (.iload_n 3, 1) := by decide +kernel
theorem dX9_place_69 : decode cX9_place 69 = .ok (.dup2, 1) := by decide +kernel
theorem dX9_place_70 : decode cX9_place 70 = .ok (.iaload, 1) := by decide +kernel
theorem dX9_place_71 : decode cX9_place 71 = .ok (.aload_n 0, 1) := by decide +kernel
theorem dX9_place_72 : decode cX9_place 72 = .ok (.getfield 27, 3) := by decide +kernel
theorem dX9_place_75 : decode cX9_place 75 = .ok (.iload_n 1, 1) := by decide +kernel
theorem dX9_place_76 : decode cX9_place 76 = .ok (.iaload, 1) := by decide +kernel
theorem dX9_place_77 : decode cX9_place 77 = .ok (.iadd, 1) := by decide +kernel
theorem dX9_place_78 : decode cX9_place 78 = .ok (.iastore, 1) := by decide +kernel
theorem dX9_place_79 : decode cX9_place 79 = .ok (.aload_n 0, 1) := by decide +kernel
theorem dX9_place_80 : decode cX9_place 80 = .ok (.iload_n 1, 1) := by decide +kernel
theorem dX9_place_81 : decode cX9_place 81 = .ok (.iconst 1, 1) := by decide +kernel
theorem dX9_place_82 : decode cX9_place 82 = .ok (.iadd, 1) := by decide +kernel
theorem dX9_place_83 : decode cX9_place 83 = .ok (.iload_n 2, 1) := by decide +kernel
theorem dX9_place_84 : decode cX9_place 84 = .ok (.invokevirtual 107, 3) := by decide +kernel
theorem dX9_place_87 : decode cX9_place 87 = .ok (.aload_n 0, 1) := by decide +kernel
theorem dX9_place_88 : decode cX9_place 88 = .ok (.getfield 30, 3) := by decide +kernel
theorem dX9_place_91 : decode cX9_place 91 = .ok (.iload_n 3, 1) := by decide +kernel
theorem dX9_place_92 : decode cX9_place 92 = .ok (.dup2, 1) := by decide +kernel
theorem dX9_place_93 : decode cX9_place 93 = .ok (.iaload, 1) := by decide +kernel
theorem dX9_place_94 : decode cX9_place 94 = .ok (.aload_n 0, 1) := by decide +kernel
theorem dX9_place_95 : decode cX9_place 95 = .ok (.getfield 27, 3) := by decide +kernel
theorem dX9_place_98 : decode cX9_place 98 = .ok (.iload_n 1, 1) := by decide +kernel
theorem dX9_place_99 : decode cX9_place 99 = .ok (.iaload, 1) := by decide +kernel
theorem dX9_place_100 : decode cX9_place 100 = .ok (.isub, 1) := by decide +kernel
theorem dX9_place_101 : decode cX9_place 101 = .ok (.iastore, 1) := by decide +kernel
theorem dX9_place_102 : decode cX9_place 102 = .ok (.iinc 3 1, 3) := by decide +kernel
theorem dX9_place_105 : decode cX9_place 105 = .ok (.goto (-72), 3) := by decide +kernel
theorem dX9_place_108 : decode cX9_place 108 = .ok (.iload_n 2, 1) := by decide +kernel
theorem dX9_place_109 : decode cX9_place 109 = .ok (.iconst 1, 1) := by decide +kernel
theorem dX9_place_110 : decode cX9_place 110 = .ok (.iadd, 1) := by decide +kernel
theorem dX9_place_111 : decode cX9_place 111 = .ok (.aload_n 0, 1) := by decide +kernel
theorem dX9_place_112 : decode cX9_place 112 = .ok (.getfield 104, 3) := by decide +kernel
theorem dX9_place_115 : decode cX9_place 115 = .ok (.if_icmp .ge 31, 3) := by decide +kernel
theorem dX9_place_118 : decode cX9_place 118 = .ok (.iload_n 2, 1) := by decide +kernel
theorem dX9_place_119 : decode cX9_place 119 = .ok (.bipush 8, 2) := by decide +kernel
theorem dX9_place_121 : decode cX9_place 121 = .ok (.if_icmp .ge 25, 3) := by decide +kernel
theorem dX9_place_124 : decode cX9_place 124 = .ok (.aload_n 0, 1) := by decide +kernel
theorem dX9_place_125 : decode cX9_place 125 = .ok (.getfield 30, 3) := by decide +kernel
theorem dX9_place_128 : decode cX9_place 128 = .ok (.iload_n 2, 1) := by decide +kernel
theorem dX9_place_129 : decode cX9_place 129 = .ok (.aload_n 0, 1) := by decide +kernel
theorem dX9_place_130 : decode cX9_place 130 = .ok (.getfield 27, 3) := by decide +kernel
theorem dX9_place_133 : decode cX9_place 133 = .ok (.iload_n 1, 1) := by decide +kernel
theorem dX9_place_134 : decode cX9_place 134 = .ok (.iaload, 1) := by decide +kernel
theorem dX9_place_135 : decode cX9_place 135 = .ok (.iastore, 1) := by decide +kernel
theorem dX9_place_136 : decode cX9_place 136 = .ok (.aload_n 0, 1) := by decide +kernel
theorem dX9_place_137 : decode cX9_place 137 = .ok (.iload_n 1, 1) := by decide +kernel
theorem dX9_place_138 : decode cX9_place 138 = .ok (.iconst 1, 1) := by decide +kernel
theorem dX9_place_139 : decode cX9_place 139 = .ok (.iadd, 1) := by decide +kernel
theorem dX9_place_140 : decode cX9_place 140 = .ok (.iload_n 2, 1) := by decide +kernel
theorem dX9_place_141 : decode cX9_place 141 = .ok (.iconst 1, 1) := by decide +kernel
theorem dX9_place_142 : decode cX9_place 142 = .ok (.iadd, 1) := by decide +kernel
theorem dX9_place_143 : decode cX9_place 143 = .ok (.invokevirtual 107, 3) := by decide +kernel
theorem dX9_place_146 : decode cX9_place 146 = .ok (.return_, 1) := by decide +kernel
theorem dX10_feed_0 : decode cX10_feed 0 = .ok (.aload_n 0, 1) := by decide +kernel
theorem dX10_feed_1 : decode cX10_feed 1 = .ok (.getfield 73, 3) := by decide +kernel
theorem dX10_feed_4 : decode cX10_feed 4 = .ok (.bipush 20, 2) := by decide +kernel
theorem dX10_feed_6 : decode cX10_feed 6 = .ok (.iadd, 1) := by decide +kernel
theorem dX10_feed_7 : decode cX10_feed 7 = .ok (.sipush 1600, 3) := by decide +kernel
theorem dX10_feed_10 : decode cX10_feed 10 = .ok (.if_icmp .le 10, 3) := by decide +kernel
theorem dX10_feed_13 : decode cX10_feed 13 = .ok (.aload_n 0, 1) := by decide +kernel
theorem dX10_feed_14 : decode cX10_feed 14 = .ok (.iconst (-1), 1) := by decide +kernel
theorem dX10_feed_15 : decode cX10_feed 15 = .ok (.iconst 0, 1) := by decide +kernel
theorem dX10_feed_16 : decode cX10_feed 16 = .ok (.invokevirtual 83, 3) := by decide +kernel
theorem dX10_feed_19 : decode cX10_feed 19 = .ok (.ireturn, 1) := by decide +kernel
theorem dX10_feed_20 : decode cX10_feed 20 = .ok (.aload_n 0, 1) := by decide +kernel
theorem dX10_feed_21 : decode cX10_feed 21 = .ok (.iload_n 1, 1) := by decide +kernel
theorem dX10_feed_22 : decode cX10_feed 22 = .ok (.invokevirtual 87, 3) := by decide +kernel
theorem dX10_feed_25 : decode cX10_feed 25 = .ok (.aload_n 0, 1) := by decide +kernel
theorem dX10_feed_26 : decode cX10_feed 26 = .ok (.iload_n 2, 1) := by decide +kernel
theorem dX10_feed_27 : decode cX10_feed 27 = .ok (.invokevirtual 87, 3) := by decide +kernel
theorem dX10_feed_30 : decode cX10_feed 30 = .ok (.aload_n 0, 1) := by decide +kernel
theorem dX10_feed_31 : decode cX10_feed 31 = .ok (.iload_n 3, 1) := by decide +kernel
theorem dX10_feed_32 : decode cX10_feed 32 = .ok (.invokevirtual 87, 3) := by decide +kernel
theorem dX10_feed_35 : decode cX10_feed 35 = .ok (.aload_n 0, 1) := by decide +kernel
theorem dX10_feed_36 : decode cX10_feed 36 = .ok (.iload 4, 2) := by decide +kernel
theorem dX10_feed_38 : decode cX10_feed 38 = .ok (.invokevirtual 87, 3) := by decide +kernel
theorem dX10_feed_41 : decode cX10_feed 41 = .ok (.aload_n 0, 1) := by decide +kernel
theorem dX10_feed_42 : decode cX10_feed 42 = .ok (.iload 5, 2) := by decide +kernel
theorem dX10_feed_44 : decode cX10_feed 44 = .ok (.invokevirtual 87, 3) := by decide +kernel
theorem dX10_feed_47 : decode cX10_feed 47 = .ok (.aload_n 0, 1) := by decide +kernel
theorem dX10_feed_48 : decode cX10_feed 48 = .ok (.getfield 73, 3) := by decide +kernel
theorem dX10_feed_51 : decode cX10_feed 51 = .ok (.ireturn, 1) := by decide +kernel
theorem dX10_putOnTape_0 : decode cX10_putOnTape 0 = .ok (.bipush 24, 2) := by decide +kernel
theorem dX10_putOnTape_2 : decode cX10_putOnTape 2 = .ok (.istore_n 2, 1) := by decide +kernel
theorem dX10_putOnTape_3 : decode cX10_putOnTape 3 = .ok (.iload_n 2, 1) := by decide +kernel
theorem dX10_putOnTape_4 : decode cX10_putOnTape 4 = .ok (.ifCond .lt 45, 3) := by decide +kernel
theorem dX10_putOnTape_7 : decode cX10_putOnTape 7 = .ok (.aload_n 0, 1) := by decide +kernel
theorem dX10_putOnTape_8 : decode cX10_putOnTape 8 = .ok (.getfield 73, 3) := by decide +kernel
theorem dX10_putOnTape_11 : decode cX10_putOnTape 11 = .ok (.sipush 1600, 3) := by decide +kernel
theorem dX10_putOnTape_14 : decode cX10_putOnTape 14 = .ok (.if_icmp .ge 35, 3) := by decide +kernel
theorem dX10_putOnTape_17 : decode cX10_putOnTape 17 = .ok (.aload_n 0, 1) := by decide +kernel
theorem dX10_putOnTape_18 : decode cX10_putOnTape 18 = .ok (.getfield 9, 3) := by decide +kernel
theorem dX10_putOnTape_21 : decode cX10_putOnTape 21 = .ok (.aload_n 0, 1) := by decide +kernel
theorem dX10_putOnTape_22 : decode cX10_putOnTape 22 = .ok (.getfield 73, 3) := by decide +kernel
theorem dX10_putOnTape_25 : decode cX10_putOnTape 25 = .ok (.iload_n 1, 1) := by decide +kernel
theorem dX10_putOnTape_26 : decode cX10_putOnTape 26 = .ok (.iload_n 2, 1) := by decide +kernel
theorem dX10_putOnTape_27 : decode cX10_putOnTape 27 = .ok (.ishr, 1) := by decide +kernel
theorem dX10_putOnTape_28 : decode cX10_putOnTape 28 = .ok (.sipush 255, 3) := by decide +kernel
theorem dX10_putOnTape_31 : decode cX10_putOnTape 31 = .ok (.iand, 1) := by decide +kernel
theorem dX10_putOnTape_32 : decode cX10_putOnTape 32 = .ok (.iastore, 1) := by decide +kernel
theorem dX10_putOnTape_33 : decode cX10_putOnTape 33 = .ok (.aload_n 0, 1) := by decide +kernel
theorem dX10_putOnTape_34 : decode cX10_putOnTape 34 = .ok (.dup, 1) := by decide +kernel
theorem dX10_putOnTape_35 : decode cX10_putOnTape 35 = .ok (.getfield 73, 3) := by decide +kernel
theorem dX10_putOnTape_38 : decode cX10_putOnTape 38 = .ok (.iconst 1, 1) := by decide +kernel
theorem dX10_putOnTape_39 : decode cX10_putOnTape 39 = .ok (.iadd, 1) := by decide +kernel
theorem dX10_putOnTape_40 : decode cX10_putOnTape 40 = .ok (.putfield 73, 3) := by decide +kernel
theorem dX10_putOnTape_43 : decode cX10_putOnTape 43 = .ok (.iinc 2 (-8), 3) := by decide +kernel
theorem dX10_putOnTape_46 : decode cX10_putOnTape 46 = .ok (.goto (-43), 3) := by decide +kernel
theorem dX10_putOnTape_49 : decode cX10_putOnTape 49 = .ok (.return_, 1) := by decide +kernel
theorem dX10_end_0 : decode cX10_end 0 = .ok (.iload_n 1, 1) := by decide +kernel
theorem dX10_end_1 : decode cX10_end 1 = .ok (.ifCond .lt 11, 3) := by decide +kernel
theorem dX10_end_4 : decode cX10_end 4 = .ok (.iload_n 1, 1) := by decide +kernel
theorem dX10_end_5 : decode cX10_end 5 = .ok (.aload_n 0, 1) := by decide +kernel
theorem dX10_end_6 : decode cX10_end 6 = .ok (.getfield 73, 3) := by decide +kernel
theorem dX10_end_9 : decode cX10_end 9 = .ok (.if_icmp .le 10, 3) := by decide +kernel
theorem dX10_end_12 : decode cX10_end 12 = .ok (.aload_n 0, 1) := by decide +kernel
theorem dX10_end_13 : decode cX10_end 13 = .ok (.iconst 0, 1) := by decide +kernel
theorem dX10_end_14 : decode cX10_end 14 = .ok (.iconst 0, 1) := by decide +kernel
theorem dX10_end_15 : decode cX10_end 15 = .ok (.invokevirtual 91, 3) := by decide +kernel
theorem dX10_end_18 : decode cX10_end 18 = .ok (.ireturn, 1) := by decide +kernel
theorem dX10_end_19 : decode cX10_end 19 = .ok (.aload_n 0, 1) := by decide +kernel
theorem dX10_end_20 : decode cX10_end 20 = .ok (.iload_n 1, 1) := by decide +kernel
theorem dX10_end_21 : decode cX10_end 21 = .ok (.putfield 73, 3) := by decide +kernel
theorem dX10_end_24 : decode cX10_end 24 = .ok (.iconst 1, 1) := by decide +kernel
theorem dX10_end_25 : decode cX10_end 25 = .ok (.ireturn, 1) := by decide +kernel
theorem dX10_land_0 : decode cX10_land 0 = .ok (.aload_n 0, 1) := by decide +kernel
theorem dX10_land_1 : decode cX10_land 1 = .ok (.getfield 21, 3) := by decide +kernel
theorem dX10_land_4 : decode cX10_land 4 = .ok (.aload_n 0, 1) := by decide +kernel
theorem dX10_land_5 : decode cX10_land 5 = .ok (.getfield 73, 3) := by decide +kernel
theorem dX10_land_8 : decode cX10_land 8 = .ok (.invokevirtual 95, 3) := by decide +kernel
theorem dX10_land_11 : decode cX10_land 11 = .ok (.aload_n 0, 1) := by decide +kernel
theorem dX10_land_12 : decode cX10_land 12 = .ok (.iconst 0, 1) := by decide +kernel
theorem dX10_land_13 : decode cX10_land 13 = .ok (.putfield 73, 3) := by decide +kernel
theorem dX10_land_16 : decode cX10_land 16 = .ok (.aload_n 0, 1) := by decide +kernel
theorem dX10_land_17 : decode cX10_land 17 = .ok (.getfield 37, 3) := by decide +kernel
theorem dX10_land_20 : decode cX10_land 20 = .ok (.aload_n 0, 1) := by decide +kernel
theorem dX10_land_21 : decode cX10_land 21 = .ok (.getfield 28, 3) := by decide +kernel
theorem dX10_land_24 : decode cX10_land 24 = .ok (.invokevirtual 98, 3) := by decide +kernel
theorem dX10_land_27 : decode cX10_land 27 = .ok (.istore_n 1, 1) := by decide +kernel
theorem dX10_land_28 : decode cX10_land 28 = .ok (.aload_n 0, 1) := by decide +kernel
theorem dX10_land_29 : decode cX10_land 29 = .ok (.aload_n 0, 1) := by decide +kernel
theorem dX10_land_30 : decode cX10_land 30 = .ok (.getfield 21, 3) := by decide +kernel
theorem dX10_land_33 : decode cX10_land 33 = .ok (.getfield 102, 3) := by decide +kernel
theorem dX10_land_36 : decode cX10_land 36 = .ok (.putfield 77, 3) := by decide +kernel
theorem dX10_land_39 : decode cX10_land 39 = .ok (.aload_n 0, 1) := by decide +kernel
theorem dX10_land_40 : decode cX10_land 40 = .ok (.aload_n 0, 1) := by decide +kernel
theorem dX10_land_41 : decode cX10_land 41 = .ok (.getfield 21, 3) := by decide +kernel
theorem dX10_land_44 : decode cX10_land 44 = .ok (.getfield 103, 3) := by decide +kernel
theorem dX10_land_47 : decode cX10_land 47 = .ok (.putfield 80, 3) := by decide +kernel
theorem dX10_land_50 : decode cX10_land 50 = .ok (.iload_n 1, 1) := by decide +kernel
theorem dX10_land_51 : decode cX10_land 51 = .ok (.iconst (-1), 1) := by decide +kernel
theorem dX10_land_52 : decode cX10_land 52 = .ok (.if_icmp .ne 10, 3) := by decide +kernel
theorem dX10_land_55 : decode cX10_land 55 = .ok (.aload_n 0, 1) := by decide +kernel
theorem dX10_land_56 : decode cX10_land 56 = .ok (.iconst (-1), 1) := by decide +kernel
theorem dX10_land_57 : decode cX10_land 57 = .ok (.iconst 1, 1) := by decide +kernel
theorem dX10_land_58 : decode cX10_land 58 = .ok (.invokevirtual 83, 3) := by decide +kernel
theorem dX10_land_61 : decode cX10_land 61 = .ok (.ireturn, 1) := by decide +kernel
theorem dX10_land_62 : decode cX10_land 62 = .ok (.aload_n 0, 1) := by decide +kernel
theorem dX10_land_63 : decode cX10_land 63 = .ok (.getfield 53, 3) := by decide +kernel
theorem dX10_land_66 : decode cX10_land 66 = .ok (.getfield 106, 3) := by decide +kernel
theorem dX10_land_69 : decode cX10_land 69 = .ok (.astore_n 2, 1) := by decide +kernel
theorem dX10_land_70 : decode cX10_land 70 = .ok (.aload_n 0, 1) := by decide +kernel
theorem dX10_land_71 : decode cX10_land 71 = .ok (.getfield 53, 3) := by decide +kernel
theorem dX10_land_74 : decode cX10_land 74 = .ok (.aload_n 0, 1) := by decide +kernel
theorem dX10_land_75 : decode cX10_land 75 = .ok (.getfield 28, 3) := by decide +kernel
theorem dX10_land_78 : decode cX10_land 78 = .ok (.invokevirtual 109, 3) := by decide +kernel
theorem dX10_land_81 : decode cX10_land 81 = .ok (.aload_n 0, 1) := by decide +kernel
theorem dX10_land_82 : decode cX10_land 82 = .ok (.getfield 62, 3) := by decide +kernel
theorem dX10_land_85 : decode cX10_land 85 = .ok (.invokevirtual 112, 3) := by decide +kernel
theorem dX10_land_88 : decode cX10_land 88 = .ok (.aload_n 0, 1) := by decide +kernel
theorem dX10_land_89 : decode cX10_land 89 = .ok (.aload_n 2, 1) := by decide +kernel
theorem dX10_land_90 : decode cX10_land 90 = .ok (.putfield 28, 3) := by decide +kernel
theorem dX10_land_93 : decode cX10_land 93 = .ok (.iload_n 1, 1) := by decide +kernel
theorem dX10_land_94 : decode cX10_land 94 = .ok (.ireturn, 1) := by decide +kernel
theorem dX10_fault_0 : decode cX10_fault 0 = .ok (.iload_n 1, 1) := by decide +kernel
theorem dX10_fault_1 : decode cX10_fault 1 = .ok (.lookupswitch 37 #[(0, 27), (1, 32)], 27) := by decide +kernel
theorem dX10_fault_28 : decode cX10_fault 28 = .ok (.aload_n 0, 1) := by decide +kernel
theorem dX10_fault_29 : decode cX10_fault 29 = .ok (.getfield 77, 3) := by decide +kernel
theorem dX10_fault_32 : decode cX10_fault 32 = .ok (.ireturn, 1) := by decide +kernel
theorem dX10_fault_33 : decode cX10_fault 33 = .ok (.aload_n 0, 1) := by decide +kernel
theorem dX10_fault_34 : decode cX10_fault 34 = .ok (.getfield 80, 3) := by decide +kernel
theorem dX10_fault_37 : decode cX10_fault 37 = .ok (.ireturn, 1) := by decide +kernel
theorem dX10_fault_38 : decode cX10_fault 38 = .ok (.iconst (-1), 1) := by decide +kernel
theorem dX10_fault_39 : decode cX10_fault 39 = .ok (.ireturn, 1) := by decide +kernel
theorem dX10_has_0 : decode cX10_has 0 = .ok (.aload_n 0, 1) := by decide +kernel
theorem dX10_has_1 : decode cX10_has 1 = .ok (.getfield 53, 3) := by decide +kernel
theorem dX10_has_4 : decode cX10_has 4 = .ok (.getfield 106, 3) := by decide +kernel
theorem dX10_has_7 : decode cX10_has 7 = .ok (.astore_n 2, 1) := by decide +kernel
theorem dX10_has_8 : decode cX10_has 8 = .ok (.iload_n 1, 1) := by decide +kernel
theorem dX10_has_9 : decode cX10_has 9 = .ok (.tableswitch 129 0 8 #[51, 59, 67, 75, 83, 91, 99, 110, 118], 51) := by decide +kernel
theorem dX10_has_60 : decode cX10_has 60 = .ok (.aload_n 2, 1) := by decide +kernel
theorem dX10_has_61 : decode cX10_has 61 = .ok (.getfield 115, 3) := by decide +kernel
theorem dX10_has_64 : decode cX10_has 64 = .ok (.getfield 119, 3) := by decide +kernel
theorem dX10_has_67 : decode cX10_has 67 = .ok (.ireturn, 1) := by decide +kernel
theorem dX10_has_68 : decode cX10_has 68 = .ok (.aload_n 2, 1) := by decide +kernel
theorem dX10_has_69 : decode cX10_has 69 = .ok (.getfield 124, 3) := by decide +kernel
theorem dX10_has_72 : decode cX10_has 72 = .ok (.getfield 119, 3) := by decide +kernel
theorem dX10_has_75 : decode cX10_has 75 = .ok (.ireturn, 1) := by decide +kernel
theorem dX10_has_76 : decode cX10_has 76 = .ok (.aload_n 2, 1) := by decide +kernel
theorem dX10_has_77 : decode cX10_has 77 = .ok (.getfield 127, 3) := by decide +kernel
theorem dX10_has_80 : decode cX10_has 80 = .ok (.getfield 119, 3) := by decide +kernel
theorem dX10_has_83 : decode cX10_has 83 = .ok (.ireturn, 1) := by decide +kernel
theorem dX10_has_84 : decode cX10_has 84 = .ok (.aload_n 2, 1) := by decide +kernel
theorem dX10_has_85 : decode cX10_has 85 = .ok (.getfield 130, 3) := by decide +kernel
theorem dX10_has_88 : decode cX10_has 88 = .ok (.getfield 119, 3) := by decide +kernel
theorem dX10_has_91 : decode cX10_has 91 = .ok (.ireturn, 1) := by decide +kernel
theorem dX10_has_92 : decode cX10_has 92 = .ok (.aload_n 2, 1) := by decide +kernel
theorem dX10_has_93 : decode cX10_has 93 = .ok (.getfield 133, 3) := by decide +kernel
theorem dX10_has_96 : decode cX10_has 96 = .ok (.getfield 119, 3) := by decide +kernel
theorem dX10_has_99 : decode cX10_has 99 = .ok (.ireturn, 1) := by decide +kernel
theorem dX10_has_100 : decode cX10_has 100 = .ok (.aload_n 0, 1) := by decide +kernel
theorem dX10_has_101 : decode cX10_has 101 = .ok (.getfield 53, 3) := by decide +kernel
theorem dX10_has_104 : decode cX10_has 104 = .ok (.getfield 136, 3) := by decide +kernel
theorem dX10_has_107 : decode cX10_has 107 = .ok (.ireturn, 1) := by decide +kernel
theorem dX10_has_108 : decode cX10_has 108 = .ok (.aload_n 0, 1) := by decide +kernel
theorem dX10_has_109 : decode cX10_has 109 = .ok (.getfield 62, 3) := by decide +kernel
theorem dX10_has_112 : decode cX10_has 112 = .ok (.getfield 139, 3) := by decide +kernel
theorem dX10_has_115 : decode cX10_has 115 = .ok (.getfield 119, 3) := by decide +kernel
theorem dX10_has_118 : decode cX10_has 118 = .ok (.ireturn, 1) := by decide +kernel
theorem dX10_has_119 : decode cX10_has 119 = .ok (.aload_n 0, 1) := by decide +kernel
theorem dX10_has_120 : decode cX10_has 120 = .ok (.getfield 53, 3) := by decide +kernel
theorem dX10_has_123 : decode cX10_has 123 = .ok (.getfield 142, 3) := by decide +kernel
theorem dX10_has_126 : decode cX10_has 126 = .ok (.ireturn, 1) := by decide +kernel
theorem dX10_has_127 : decode cX10_has 127 = .ok (.aload_n 0, 1) := by decide +kernel
theorem dX10_has_128 : decode cX10_has 128 = .ok (.getfield 62, 3) := by decide +kernel
theorem dX10_has_131 : decode cX10_has 131 = .ok (.getfield 145, 3) := by decide +kernel
theorem dX10_has_134 : decode cX10_has 134 = .ok (.getfield 149, 3) := by decide +kernel
theorem dX10_has_137 : decode cX10_has 137 = .ok (.ireturn, 1) := by decide +kernel
theorem dX10_has_138 : decode cX10_has 138 = .ok (.iconst (-1), 1) := by decide +kernel
theorem dX10_has_139 : decode cX10_has 139 = .ok (.ireturn, 1) := by decide +kernel
theorem dX10_letter_0 : decode cX10_letter 0 = .ok (.aload_n 0, 1) := by decide +kernel
theorem dX10_letter_1 : decode cX10_letter 1 = .ok (.getfield 53, 3) := by decide +kernel
theorem dX10_letter_4 : decode cX10_letter 4 = .ok (.getfield 106, 3) := by decide +kernel
theorem dX10_letter_7 : decode cX10_letter 7 = .ok (.astore 4, 2) := by decide +kernel
theorem dX10_letter_9 : decode cX10_letter 9 = .ok (.iconst 0, 1) := by decide +kernel
theorem dX10_letter_10 : decode cX10_letter 10 = .ok (.istore 5, 2) := by decide +kernel
theorem dX10_letter_12 : decode cX10_letter 12 = .ok (.iload_n 1, 1) := by decide +kernel
theorem dX10_letter_13 : decode cX10_letter 13 = .ok (.tableswitch 69 0 2 #[27, 41, 55], 27) := by decide +kernel
theorem dX10_letter_40 : decode cX10_letter 40 = .ok (.aload 4, 2) := by decide +kernel
theorem dX10_letter_42 : decode cX10_letter 42 = .ok (.getfield 115, 3) := by decide +kernel
theorem dX10_letter_45 : decode cX10_letter 45 = .ok (.iload_n 2, 1) := by decide +kernel
theorem dX10_letter_46 : decode cX10_letter 46 = .ok (.invokevirtual 152, 3) := by decide +kernel
theorem dX10_letter_49 : decode cX10_letter 49 = .ok (.istore 5, 2) := by decide +kernel
theorem dX10_letter_51 : decode cX10_letter 51 = .ok (.goto 33, 3) := by decide +kernel
theorem dX10_letter_54 : decode cX10_letter 54 = .ok (.aload 4, 2) := by decide +kernel
theorem dX10_letter_56 : decode cX10_letter 56 = .ok (.getfield 124, 3) := by decide +kernel
theorem dX10_letter_59 : decode cX10_letter 59 = .ok (.iload_n 2, 1) := by decide +kernel
theorem dX10_letter_60 : decode cX10_letter 60 = .ok (.invokevirtual 152, 3) := by decide +kernel
theorem dX10_letter_63 : decode cX10_letter 63 = .ok (.istore 5, 2) := by decide +kernel
theorem dX10_letter_65 : decode cX10_letter 65 = .ok (.goto 19, 3) := by decide +kernel
theorem dX10_letter_68 : decode cX10_letter 68 = .ok (.aload 4, 2) := by decide +kernel
theorem dX10_letter_70 : decode cX10_letter 70 = .ok (.getfield 133, 3) := by decide +kernel
theorem dX10_letter_73 : decode cX10_letter 73 = .ok (.iload_n 2, 1) := by decide +kernel
theorem dX10_letter_74 : decode cX10_letter 74 = .ok (.invokevirtual 152, 3) := by decide +kernel
theorem dX10_letter_77 : decode cX10_letter 77 = .ok (.istore 5, 2) := by decide +kernel
theorem dX10_letter_79 : decode cX10_letter 79 = .ok (.goto 5, 3) := by decide +kernel
theorem dX10_letter_82 : decode cX10_letter 82 = .ok (.iconst (-1), 1) := by decide +kernel
theorem dX10_letter_83 : decode cX10_letter 83 = .ok (.ireturn, 1) := by decide +kernel
theorem dX10_letter_84 : decode cX10_letter 84 = .ok (.iload 5, 2) := by decide +kernel
theorem dX10_letter_86 : decode cX10_letter 86 = .ok (.iload_n 3, 1) := by decide +kernel
theorem dX10_letter_87 : decode cX10_letter 87 = .ok (.invokestatic 156, 3) := by decide +kernel
theorem dX10_letter_90 : decode cX10_letter 90 = .ok (.istore 6, 2) := by decide +kernel
theorem dX10_letter_92 : decode cX10_letter 92 = .ok (.iload 6, 2) := by decide +kernel
theorem dX10_letter_94 : decode cX10_letter 94 = .ok (.iconst (-1), 1) := by decide +kernel
theorem dX10_letter_95 : decode cX10_letter 95 = .ok (.if_icmp .ne 7, 3) := by decide +kernel
theorem dX10_letter_98 : decode cX10_letter 98 = .ok (.iconst (-1), 1) := by decide +kernel
theorem dX10_letter_99 : decode cX10_letter 99 = .ok (.goto 8, 3) := by decide +kernel
theorem dX10_letter_102 : decode cX10_letter 102 = .ok (.iload 6, 2) := by decide +kernel
theorem dX10_letter_104 : decode cX10_letter 104 = .ok (.bipush 97, 2) := by decide +kernel
theorem dX10_letter_106 : decode cX10_letter 106 = .ok (.iadd, 1) := by decide +kernel
theorem dX10_letter_107 : decode cX10_letter 107 = .ok (.ireturn, 1) := by decide +kernel
theorem dX10_ounces_0 : decode cX10_ounces 0 = .ok (.aload_n 0, 1) := by decide +kernel
theorem dX10_ounces_1 : decode cX10_ounces 1 = .ok (.getfield 53, 3) := by decide +kernel
theorem dX10_ounces_4 : decode cX10_ounces 4 = .ok (.getfield 106, 3) := by decide +kernel
theorem dX10_ounces_7 : decode cX10_ounces 7 = .ok (.iload_n 1, 1) := by decide +kernel
theorem dX10_ounces_8 : decode cX10_ounces 8 = .ok (.invokestatic 159, 3) := by decide +kernel
theorem dX10_ounces_11 : decode cX10_ounces 11 = .ok (.invokevirtual 162, 3) := by decide +kernel
theorem dX10_ounces_14 : decode cX10_ounces 14 = .ok (.ireturn, 1) := by decide +kernel
theorem dX10_title_0 : decode cX10_title 0 = .ok (.aload_n 0, 1) := by decide +kernel
theorem dX10_title_1 : decode cX10_title 1 = .ok (.getfield 53, 3) := by decide +kernel
theorem dX10_title_4 : decode cX10_title 4 = .ok (.getfield 106, 3) := by decide +kernel
theorem dX10_title_7 : decode cX10_title 7 = .ok (.astore_n 3, 1) := by decide +kernel
theorem dX10_title_8 : decode cX10_title 8 = .ok (.aload_n 3, 1) := by decide +kernel
theorem dX10_title_9 : decode cX10_title 9 = .ok (.getfield 124, 3) := by decide +kernel
theorem dX10_title_12 : decode cX10_title 12 = .ok (.iload_n 1, 1) := by decide +kernel
theorem dX10_title_13 : decode cX10_title 13 = .ok (.invokevirtual 165, 3) := by decide +kernel
theorem dX10_title_16 : decode cX10_title 16 = .ok (.ifCond .ne 5, 3) := by decide +kernel
theorem dX10_title_19 : decode cX10_title 19 = .ok (.iconst (-1), 1) := by decide +kernel
theorem dX10_title_20 : decode cX10_title 20 = .ok (.ireturn, 1) := by decide +kernel
theorem dX10_title_21 : decode cX10_title 21 = .ok (.iload_n 2, 1) := by decide +kernel
theorem dX10_title_22 : decode cX10_title 22 = .ok (.tableswitch 67 0 3 #[30, 36, 46, 58], 30) := by decide +kernel
theorem dX10_title_52 : decode cX10_title 52 = .ok (.aload_n 3, 1) := by decide +kernel
theorem dX10_title_53 : decode cX10_title 53 = .ok (.iload_n 1, 1) := by decide +kernel
theorem dX10_title_54 : decode cX10_title 54 = .ok (.invokevirtual 169, 3) := by decide +kernel
theorem dX10_title_57 : decode cX10_title 57 = .ok (.ireturn, 1) := by decide +kernel
theorem dX10_title_58 : decode cX10_title 58 = .ok (.aload_n 3, 1) := by decide +kernel
theorem dX10_title_59 : decode cX10_title 59 = .ok (.getfield 124, 3) := by decide +kernel
theorem dX10_title_62 : decode cX10_title 62 = .ok (.iload_n 1, 1) := by decide +kernel
theorem dX10_title_63 : decode cX10_title 63 = .ok (.iconst 0, 1) := by decide +kernel
theorem dX10_title_64 : decode cX10_title 64 = .ok (.invokevirtual 172, 3) := by decide +kernel
theorem dX10_title_67 : decode cX10_title 67 = .ok (.ireturn, 1) := by decide +kernel
theorem dX10_title_68 : decode cX10_title 68 = .ok (.aload_n 3, 1) := by decide +kernel
theorem dX10_title_69 : decode cX10_title 69 = .ok (.getfield 124, 3) := by decide +kernel
theorem dX10_title_72 : decode cX10_title 72 = .ok (.iload_n 1, 1) := by decide +kernel
theorem dX10_title_73 : decode cX10_title 73 = .ok (.invokevirtual 152, 3) := by decide +kernel
theorem dX10_title_76 : decode cX10_title 76 = .ok (.invokestatic 175, 3) := by decide +kernel
theorem dX10_title_79 : decode cX10_title 79 = .ok (.ireturn, 1) := by decide +kernel
theorem dX10_title_80 : decode cX10_title 80 = .ok (.aload_n 0, 1) := by decide +kernel
theorem dX10_title_81 : decode cX10_title 81 = .ok (.getfield 53, 3) := by decide +kernel
theorem dX10_title_84 : decode cX10_title 84 = .ok (.iload_n 1, 1) := by decide +kernel
theorem dX10_title_85 : decode cX10_title 85 = .ok (.invokevirtual 178, 3) := by decide +kernel
theorem dX10_title_88 : decode cX10_title 88 = .ok (.ireturn, 1) := by decide +kernel
theorem dX10_title_89 : decode cX10_title 89 = .ok (.iconst (-1), 1) := by decide +kernel
theorem dX10_title_90 : decode cX10_title 90 = .ok (.ireturn, 1) := by decide +kernel
theorem dX10_person_0 : decode cX10_person 0 = .ok (.aload_n 0, 1) := by decide +kernel
theorem dX10_person_1 : decode cX10_person 1 = .ok (.getfield 53, 3) := by decide +kernel
theorem dX10_person_4 : decode cX10_person 4 = .ok (.iload_n 1, 1) := by decide +kernel
theorem dX10_person_5 : decode cX10_person 5 = .ok (.invokevirtual 181, 3) := by decide +kernel
theorem dX10_person_8 : decode cX10_person 8 = .ok (.ifCond .ne 5, 3) := by decide +kernel
theorem dX10_person_11 : decode cX10_person 11 = .ok (.iconst (-1), 1) := by decide +kernel
theorem dX10_person_12 : decode cX10_person 12 = .ok (.ireturn, 1) := by decide +kernel
theorem dX10_person_13 : decode cX10_person 13 = .ok (.iload_n 2, 1) := by decide +kernel
theorem dX10_person_14 : decode cX10_person 14 = .ok (.tableswitch 135 0 8 #[50, 59, 68, 77, 86, 95, 104, 110, 126], 50) := by decide +kernel
theorem dX10_person_64 : decode cX10_person 64 = .ok (.aload_n 0, 1) := by decide +kernel
theorem dX10_person_65 : decode cX10_person 65 = .ok (.getfield 53, 3) := by decide +kernel
theorem dX10_person_68 : decode cX10_person 68 = .ok (.iload_n 1, 1) := by decide +kernel
theorem dX10_person_69 : decode cX10_person 69 = .ok (.invokevirtual 184, 3) := by decide +kernel
theorem dX10_person_72 : decode cX10_person 72 = .ok (.ireturn, 1) := by decide +kernel
theorem dX10_person_73 : decode cX10_person 73 = .ok (.aload_n 0, 1) := by decide +kernel
theorem dX10_person_74 : decode cX10_person 74 = .ok (.getfield 53, 3) := by decide +kernel
theorem dX10_person_77 : decode cX10_person 77 = .ok (.iload_n 1, 1) := by decide +kernel
theorem dX10_person_78 : decode cX10_person 78 = .ok (.invokevirtual 187, 3) := by decide +kernel
theorem dX10_person_81 : decode cX10_person 81 = .ok (.ireturn, 1) := by decide +kernel
theorem dX10_person_82 : decode cX10_person 82 = .ok (.aload_n 0, 1) := by decide +kernel
theorem dX10_person_83 : decode cX10_person 83 = .ok (.getfield 53, 3) := by decide +kernel
theorem dX10_person_86 : decode cX10_person 86 = .ok (.iload_n 1, 1) := by decide +kernel
theorem dX10_person_87 : decode cX10_person 87 = .ok (.invokevirtual 190, 3) := by decide +kernel
theorem dX10_person_90 : decode cX10_person 90 = .ok (.ireturn, 1) := by decide +kernel
theorem dX10_person_91 : decode cX10_person 91 = .ok (.aload_n 0, 1) := by decide +kernel
theorem dX10_person_92 : decode cX10_person 92 = .ok (.getfield 53, 3) := by decide +kernel
theorem dX10_person_95 : decode cX10_person 95 = .ok (.iload_n 1, 1) := by decide +kernel
theorem dX10_person_96 : decode cX10_person 96 = .ok (.invokevirtual 193, 3) := by decide +kernel
theorem dX10_person_99 : decode cX10_person 99 = .ok (.ireturn, 1) := by decide +kernel
theorem dX10_person_100 : decode cX10_person 100 = .ok (.aload_n 0, 1) := by decide +kernel
theorem dX10_person_101 : decode cX10_person 101 = .ok (.getfield 53, 3) := by decide +kernel
theorem dX10_person_104 : decode cX10_person 104 = .ok (.iload_n 1, 1) := by decide +kernel
theorem dX10_person_105 : decode cX10_person 105 = .ok (.invokevirtual 196, 3) := by decide +kernel
theorem dX10_person_108 : decode cX10_person 108 = .ok (.ireturn, 1) := by decide +kernel
theorem dX10_person_109 : decode cX10_person 109 = .ok (.aload_n 0, 1) := by decide +kernel
theorem dX10_person_110 : decode cX10_person 110 = .ok (.getfield 53, 3) := by decide +kernel
theorem dX10_person_113 : decode cX10_person 113 = .ok (.iload_n 1, 1) := by decide +kernel
theorem dX10_person_114 : decode cX10_person 114 = .ok (.invokevirtual 199, 3) := by decide +kernel
theorem dX10_person_117 : decode cX10_person 117 = .ok (.ireturn, 1) := by decide +kernel
theorem dX10_person_118 : decode cX10_person 118 = .ok (.aload_n 0, 1) := by decide +kernel
theorem dX10_person_119 : decode cX10_person 119 = .ok (.iload_n 1, 1) := by decide +kernel
theorem dX10_person_120 : decode cX10_person 120 = .ok (.invokevirtual 202, 3) := by decide +kernel
theorem dX10_person_123 : decode cX10_person 123 = .ok (.ireturn, 1) := by decide +kernel
theorem dX10_person_124 : decode cX10_person 124 = .ok (.aload_n 0, 1) := by decide +kernel
theorem dX10_person_125 : decode cX10_person 125 = .ok (.getfield 53, 3) := by decide +kernel
theorem dX10_person_128 : decode cX10_person 128 = .ok (.getfield 106, 3) := by decide +kernel
theorem dX10_person_131 : decode cX10_person 131 = .ok (.aload_n 0, 1) := by decide +kernel
theorem dX10_person_132 : decode cX10_person 132 = .ok (.iload_n 1, 1) := by decide +kernel
theorem dX10_person_133 : decode cX10_person 133 = .ok (.invokevirtual 202, 3) := by decide +kernel
theorem dX10_person_136 : decode cX10_person 136 = .ok (.invokevirtual 205, 3) := by decide +kernel
theorem dX10_person_139 : decode cX10_person 139 = .ok (.ireturn, 1) := by decide +kernel
theorem dX10_person_140 : decode cX10_person 140 = .ok (.aload_n 0, 1) := by decide +kernel
theorem dX10_person_141 : decode cX10_person 141 = .ok (.getfield 53, 3) := by decide +kernel
theorem dX10_person_144 : decode cX10_person 144 = .ok (.iload_n 1, 1) := by decide +kernel
theorem dX10_person_145 : decode cX10_person 145 = .ok (.invokevirtual 208, 3) := by decide +kernel
theorem dX10_person_148 : decode cX10_person 148 = .ok (.ireturn, 1) := by decide +kernel
theorem dX10_person_149 : decode cX10_person 149 = .ok (.iconst (-1), 1) := by decide +kernel
theorem dX10_person_150 : decode cX10_person 150 = .ok (.ireturn, 1) := by decide +kernel
theorem dX10_bestOfAll_0 : decode cX10_bestOfAll 0 = .ok (.aload_n 0, 1) := by decide +kernel
theorem dX10_bestOfAll_1 : decode cX10_bestOfAll 1 = .ok (.getfield 44, 3) := by decide +kernel
theorem dX10_bestOfAll_4 : decode cX10_bestOfAll 4 = .ok (.aload_n 0, 1) := by decide +kernel
theorem dX10_bestOfAll_5 : decode cX10_bestOfAll 5 = .ok (.getfield 53, 3) := by decide +kernel
theorem dX10_bestOfAll_8 : decode cX10_bestOfAll 8 = .ok (.getfield 106, 3) := by decide +kernel
theorem dX10_bestOfAll_11 : decode cX10_bestOfAll 11 = .ok (.aload_n 0, 1) := by decide +kernel
theorem dX10_bestOfAll_12 : decode cX10_bestOfAll 12 = .ok (.getfield 53, 3) := by decide +kernel
theorem dX10_bestOfAll_15 : decode cX10_bestOfAll 15 = .ok (.getfield 106, 3) := by decide +kernel
theorem dX10_bestOfAll_18 : decode cX10_bestOfAll 18 = .ok (.invokevirtual 211, 3) := by decide +kernel
theorem dX10_bestOfAll_21 : decode cX10_bestOfAll 21 = .ok (.aload_n 0, 1) := by decide +kernel
theorem dX10_bestOfAll_22 : decode cX10_bestOfAll 22 = .ok (.getfield 53, 3) := by decide +kernel
theorem dX10_bestOfAll_25 : decode cX10_bestOfAll 25 = .ok (.iload_n 1, 1) := by decide +kernel
theorem dX10_bestOfAll_26 : decode cX10_bestOfAll 26 = .ok (.invokevirtual 187, 3) := by decide +kernel
theorem dX10_bestOfAll_29 : decode cX10_bestOfAll 29 = .ok (.invokevirtual 215, 3) := by decide +kernel
theorem dX10_bestOfAll_32 : decode cX10_bestOfAll 32 = .ok (.ireturn, 1) := by decide +kernel
theorem dX10_loose_0 : decode cX10_loose 0 = .ok (.iload_n 2, 1) := by decide +kernel
theorem dX10_loose_1 : decode cX10_loose 1 = .ok (.invokestatic 159, 3) := by decide +kernel
theorem dX10_loose_4 : decode cX10_loose 4 = .ok (.istore_n 3, 1) := by decide +kernel
theorem dX10_loose_5 : decode cX10_loose 5 = .ok (.iload_n 3, 1) := by decide +kernel
theorem dX10_loose_6 : decode cX10_loose 6 = .ok (.iconst (-1), 1) := by decide +kernel
theorem dX10_loose_7 : decode cX10_loose 7 = .ok (.if_icmp .eq 19, 3) := by decide +kernel
theorem dX10_loose_10 : decode cX10_loose 10 = .ok (.iload_n 1, 1) := by decide +kernel
theorem dX10_loose_11 : decode cX10_loose 11 = .ok (.iconst (-1), 1) := by decide +kernel
theorem dX10_loose_12 : decode cX10_loose 12 = .ok (.if_icmp .eq 16, 3) := by decide +kernel
theorem dX10_loose_15 : decode cX10_loose 15 = .ok (.aload_n 0, 1) := by decide +kernel
theorem dX10_loose_16 : decode cX10_loose 16 = .ok (.getfield 53, 3) := by decide +kernel
theorem dX10_loose_19 : decode cX10_loose 19 = .ok (.iload_n 1, 1) := by decide +kernel
theorem dX10_loose_20 : decode cX10_loose 20 = .ok (.invokevirtual 181, 3) := by decide +kernel
theorem dX10_loose_23 : decode cX10_loose 23 = .ok (.ifCond .ne 5, 3) := by decide +kernel
theorem dX10_loose_26 : decode cX10_loose 26 = .ok (.iconst (-1), 1) := by decide +kernel
theorem dX10_loose_27 : decode cX10_loose 27 = .ok (.ireturn, 1) := by decide +kernel
theorem dX10_loose_28 : decode cX10_loose 28 = .ok (.aload_n 0, 1) := by decide +kernel
theorem dX10_loose_29 : decode cX10_loose 29 = .ok (.getfield 53, 3) := by decide +kernel
theorem dX10_loose_32 : decode cX10_loose 32 = .ok (.iload_n 1, 1) := by decide +kernel
theorem dX10_loose_33 : decode cX10_loose 33 = .ok (.iconst (-1), 1) := by decide +kernel
theorem dX10_loose_34 : decode cX10_loose 34 = .ok (.if_icmp .ne 8, 3) := by decide +kernel
theorem dX10_loose_37 : decode cX10_loose 37 = .ok (.bipush 8, 2) := by decide +kernel
theorem dX10_loose_39 : decode cX10_loose 39 = .ok (.goto 4, 3) := by decide +kernel
theorem dX10_loose_42 : decode cX10_loose 42 = .ok (.iload_n 1, 1) := by decide +kernel
theorem dX10_loose_43 : decode cX10_loose 43 = .ok (.iload_n 3, 1) := by decide +kernel
theorem dX10_loose_44 : decode cX10_loose 44 = .ok (.invokevirtual 219, 3) := by decide +kernel
theorem dX10_loose_47 : decode cX10_loose 47 = .ok (.ireturn, 1) := by decide +kernel
theorem dX10_lead_0 : decode cX10_lead 0 = .ok (.iload_n 1, 1) := by decide +kernel
theorem dX10_lead_1 : decode cX10_lead 1 = .ok (.tableswitch 103 0 4 #[35, 43, 53, 61, 69], 35) := by decide +kernel
theorem dX10_lead_36 : decode cX10_lead 36 = .ok (.aload_n 0, 1) := by decide +kernel
theorem dX10_lead_37 : decode cX10_lead 37 = .ok (.getfield 53, 3) := by decide +kernel
theorem dX10_lead_40 : decode cX10_lead 40 = .ok (.invokevirtual 222, 3) := by decide +kernel
theorem dX10_lead_43 : decode cX10_lead 43 = .ok (.ireturn, 1) := by decide +kernel
theorem dX10_lead_44 : decode cX10_lead 44 = .ok (.aload_n 0, 1) := by decide +kernel
theorem dX10_lead_45 : decode cX10_lead 45 = .ok (.getfield 53, 3) := by decide +kernel
theorem dX10_lead_48 : decode cX10_lead 48 = .ok (.bipush 8, 2) := by decide +kernel
theorem dX10_lead_50 : decode cX10_lead 50 = .ok (.invokevirtual 225, 3) := by decide +kernel
theorem dX10_lead_53 : decode cX10_lead 53 = .ok (.ireturn, 1) := by decide +kernel
theorem dX10_lead_54 : decode cX10_lead 54 = .ok (.aload_n 0, 1) := by decide +kernel
theorem dX10_lead_55 : decode cX10_lead 55 = .ok (.getfield 53, 3) := by decide +kernel
theorem dX10_lead_58 : decode cX10_lead 58 = .ok (.getfield 228, 3) := by decide +kernel
theorem dX10_lead_61 : decode cX10_lead 61 = .ok (.ireturn, 1) := by decide +kernel
theorem dX10_lead_62 : decode cX10_lead 62 = .ok (.aload_n 0, 1) := by decide +kernel
theorem dX10_lead_63 : decode cX10_lead 63 = .ok (.getfield 53, 3) := by decide +kernel
theorem dX10_lead_66 : decode cX10_lead 66 = .ok (.invokevirtual 231, 3) := by decide +kernel
theorem dX10_lead_69 : decode cX10_lead 69 = .ok (.ireturn, 1) := by decide +kernel
theorem dX10_lead_70 : decode cX10_lead 70 = .ok (.aload_n 0, 1) := by decide +kernel
theorem dX10_lead_71 : decode cX10_lead 71 = .ok (.getfield 53, 3) := by decide +kernel
theorem dX10_lead_74 : decode cX10_lead 74 = .ok (.invokevirtual 222, 3) := by decide +kernel
theorem dX10_lead_77 : decode cX10_lead 77 = .ok (.aload_n 0, 1) := by decide +kernel
theorem dX10_lead_78 : decode cX10_lead 78 = .ok (.getfield 53, 3) := by decide +kernel
theorem dX10_lead_81 : decode cX10_lead 81 = .ok (.bipush 8, 2) := by decide +kernel
theorem dX10_lead_83 : decode cX10_lead 83 = .ok (.invokevirtual 225, 3) := by decide +kernel
theorem dX10_lead_86 : decode cX10_lead 86 = .ok (.iadd, 1) := by decide +kernel
theorem dX10_lead_87 : decode cX10_lead 87 = .ok (.aload_n 0, 1) := by decide +kernel
theorem dX10_lead_88 : decode cX10_lead 88 = .ok (.getfield 53, 3) := by decide +kernel
theorem dX10_lead_91 : decode cX10_lead 91 = .ok (.getfield 228, 3) := by decide +kernel
theorem dX10_lead_94 : decode cX10_lead 94 = .ok (.iadd, 1) := by decide +kernel
theorem dX10_lead_95 : decode cX10_lead 95 = .ok (.aload_n 0, 1) := by decide +kernel
theorem dX10_lead_96 : decode cX10_lead 96 = .ok (.getfield 53, 3) := by decide +kernel
theorem dX10_lead_99 : decode cX10_lead 99 = .ok (.invokevirtual 231, 3) := by decide +kernel
theorem dX10_lead_102 : decode cX10_lead 102 = .ok (.iadd, 1) := by decide +kernel
theorem dX10_lead_103 : decode cX10_lead 103 = .ok (.ireturn, 1) := by decide +kernel
theorem dX10_lead_104 : decode cX10_lead 104 = .ok (.iconst (-1), 1) := by decide +kernel
theorem dX10_lead_105 : decode cX10_lead 105 = .ok (.ireturn, 1) := by decide +kernel
theorem dX10_gain_0 : decode cX10_gain 0 = .ok (.aload_n 0, 1) := by decide +kernel
theorem dX10_gain_1 : decode cX10_gain 1 = .ok (.aload_n 0, 1) := by decide +kernel
theorem dX10_gain_2 : decode cX10_gain 2 = .ok (.getfield 62, 3) := by decide +kernel
theorem dX10_gain_5 : decode cX10_gain 5 = .ok (.iload_n 1, 1) := by decide +kernel
theorem dX10_gain_6 : decode cX10_gain 6 = .ok (.iload_n 2, 1) := by decide +kernel
theorem dX10_gain_7 : decode cX10_gain 7 = .ok (.invokevirtual 234, 3) := by decide +kernel
theorem dX10_gain_10 : decode cX10_gain 10 = .ok (.iconst 2, 1) := by decide +kernel
theorem dX10_gain_11 : decode cX10_gain 11 = .ok (.invokevirtual 83, 3) := by decide +kernel
theorem dX10_gain_14 : decode cX10_gain 14 = .ok (.ireturn, 1) := by decide +kernel
theorem dX10_shed_0 : decode cX10_shed 0 = .ok (.aload_n 0, 1) := by decide +kernel
theorem dX10_shed_1 : decode cX10_shed 1 = .ok (.aload_n 0, 1) := by decide +kernel
theorem dX10_shed_2 : decode cX10_shed 2 = .ok (.getfield 62, 3) := by decide +kernel
theorem dX10_shed_5 : decode cX10_shed 5 = .ok (.iload_n 1, 1) := by decide +kernel
theorem dX10_shed_6 : decode cX10_shed 6 = .ok (.iload_n 2, 1) := by decide +kernel
theorem dX10_shed_7 : decode cX10_shed 7 = .ok (.invokevirtual 237, 3) := by decide +kernel
theorem dX10_shed_10 : decode cX10_shed 10 = .ok (.iconst 2, 1) := by decide +kernel
theorem dX10_shed_11 : decode cX10_shed 11 = .ok (.invokevirtual 83, 3) := by decide +kernel
theorem dX10_shed_14 : decode cX10_shed 14 = .ok (.ireturn, 1) := by decide +kernel
theorem dX10_steal_0 : decode cX10_steal 0 = .ok (.aload_n 0, 1) := by decide +kernel
theorem dX10_steal_1 : decode cX10_steal 1 = .ok (.aload_n 0, 1) := by decide +kernel
theorem dX10_steal_2 : decode cX10_steal 2 = .ok (.getfield 62, 3) := by decide +kernel
theorem dX10_steal_5 : decode cX10_steal 5 = .ok (.iload_n 1, 1) := by decide +kernel
theorem dX10_steal_6 : decode cX10_steal 6 = .ok (.iload_n 2, 1) := by decide +kernel
theorem dX10_steal_7 : decode cX10_steal 7 = .ok (.iload_n 3, 1) := by decide +kernel
theorem dX10_steal_8 : decode cX10_steal 8 = .ok (.invokestatic 159, 3) := by decide +kernel
theorem dX10_steal_11 : decode cX10_steal 11 = .ok (.invokevirtual 240, 3) := by decide +kernel
theorem dX10_steal_14 : decode cX10_steal 14 = .ok (.iconst 2, 1) := by decide +kernel
theorem dX10_steal_15 : decode cX10_steal 15 = .ok (.invokevirtual 91, 3) := by decide +kernel
theorem dX10_steal_18 : decode cX10_steal 18 = .ok (.ireturn, 1) := by decide +kernel
theorem dX10_trade_0 : decode cX10_trade 0 = .ok (.iload_n 2, 1) := by decide +kernel
theorem dX10_trade_1 : decode cX10_trade 1 = .ok (.invokestatic 159, 3) := by decide +kernel
theorem dX10_trade_4 : decode cX10_trade 4 = .ok (.istore 5, 2) := by decide +kernel
theorem dX10_trade_6 : decode cX10_trade 6 = .ok (.iload 4, 2) := by decide +kernel
theorem dX10_trade_8 : decode cX10_trade 8 = .ok (.invokestatic 159, 3) := by decide +kernel
theorem dX10_trade_11 : decode cX10_trade 11 = .ok (.istore 6, 2) := by decide +kernel
theorem dX10_trade_13 : decode cX10_trade 13 = .ok (.aload_n 0, 1) := by decide +kernel
theorem dX10_trade_14 : decode cX10_trade 14 = .ok (.aload_n 0, 1) := by decide +kernel
theorem dX10_trade_15 : decode cX10_trade 15 = .ok (.getfield 62, 3) := by decide +kernel
theorem dX10_trade_18 : decode cX10_trade 18 = .ok (.iload_n 1, 1) := by decide +kernel
theorem dX10_trade_19 : decode cX10_trade 19 = .ok (.iload 5, 2) := by decide +kernel
theorem dX10_trade_21 : decode cX10_trade 21 = .ok (.iload_n 3, 1) := by decide +kernel
theorem dX10_trade_22 : decode cX10_trade 22 = .ok (.iload 6, 2) := by decide +kernel
theorem dX10_trade_24 : decode cX10_trade 24 = .ok (.invokevirtual 244, 3) := by decide +kernel
theorem dX10_trade_27 : decode cX10_trade 27 = .ok (.iconst 2, 1) := by decide +kernel
theorem dX10_trade_28 : decode cX10_trade 28 = .ok (.invokevirtual 91, 3) := by decide +kernel
theorem dX10_trade_31 : decode cX10_trade 31 = .ok (.ireturn, 1) := by decide +kernel
theorem dX10_lend_0 : decode cX10_lend 0 = .ok (.aload_n 0, 1) := by decide +kernel
theorem dX10_lend_1 : decode cX10_lend 1 = .ok (.aload_n 0, 1) := by decide +kernel
theorem dX10_lend_2 : decode cX10_lend 2 = .ok (.getfield 62, 3) := by decide +kernel
theorem dX10_lend_5 : decode cX10_lend 5 = .ok (.iload_n 1, 1) := by decide +kernel
theorem dX10_lend_6 : decode cX10_lend 6 = .ok (.iload_n 2, 1) := by decide +kernel
theorem dX10_lend_7 : decode cX10_lend 7 = .ok (.iload_n 3, 1) := by decide +kernel
theorem dX10_lend_8 : decode cX10_lend 8 = .ok (.invokevirtual 248, 3) := by decide +kernel
theorem dX10_lend_11 : decode cX10_lend 11 = .ok (.iconst 3, 1) := by decide +kernel
theorem dX10_lend_12 : decode cX10_lend 12 = .ok (.invokevirtual 83, 3) := by decide +kernel
theorem dX10_lend_15 : decode cX10_lend 15 = .ok (.ireturn, 1) := by decide +kernel
theorem dX10_giveBack_0 : decode cX10_giveBack 0 = .ok (.aload_n 0, 1) := by decide +kernel
theorem dX10_giveBack_1 : decode cX10_giveBack 1 = .ok (.aload_n 0, 1) := by decide +kernel
theorem dX10_giveBack_2 : decode cX10_giveBack 2 = .ok (.getfield 62, 3) := by decide +kernel
theorem dX10_giveBack_5 : decode cX10_giveBack 5 = .ok (.iload_n 1, 1) := by decide +kernel
theorem dX10_giveBack_6 : decode cX10_giveBack 6 = .ok (.invokevirtual 252, 3) := by decide +kernel
theorem dX10_giveBack_9 : decode cX10_giveBack 9 = .ok (.iconst 3, 1) := by decide +kernel
theorem dX10_giveBack_10 : decode cX10_giveBack 10 = .ok (.invokevirtual 91, 3) := by decide +kernel
theorem dX10_giveBack_13 : decode cX10_giveBack 13 = .ok (.ireturn, 1) := by decide +kernel
theorem dX10_loan_0 : decode cX10_loan 0 = .ok (.iload_n 2, 1) := by decide +kernel
theorem dX10_loan_1 : decode cX10_loan 1 = .ok (.iconst 3, 1) := by decide +kernel
theorem dX10_loan_2 : decode cX10_loan 2 = .ok (.if_icmp .ne 34, 3) := by decide +kernel
theorem dX10_loan_5 : decode cX10_loan 5 = .ok (.aload_n 0, 1) := by decide +kernel
theorem dX10_loan_6 : decode cX10_loan 6 = .ok (.getfield 62, 3) := by decide +kernel
theorem dX10_loan_9 : decode cX10_loan 9 = .ok (.getfield 139, 3) := by decide +kernel
theorem dX10_loan_12 : decode cX10_loan 12 = .ok (.iload_n 1, 1) := by decide +kernel
theorem dX10_loan_13 : decode cX10_loan 13 = .ok (.invokevirtual 165, 3) := by decide +kernel
theorem dX10_loan_16 : decode cX10_loan 16 = .ok (.ifCond .eq 20, 3) := by decide +kernel
theorem dX10_loan_19 : decode cX10_loan 19 = .ok (.aload_n 0, 1) := by decide +kernel
theorem dX10_loan_20 : decode cX10_loan 20 = .ok (.getfield 62, 3) := by decide +kernel
theorem dX10_loan_23 : decode cX10_loan 23 = .ok (.iload_n 1, 1) := by decide +kernel
theorem dX10_loan_24 : decode cX10_loan 24 = .ok (.invokevirtual 255, 3) := by decide +kernel
theorem dX10_loan_27 : decode cX10_loan 27 = .ok (.ifCond .eq 7, 3) := by decide +kernel
theorem dX10_loan_30 : decode cX10_loan 30 = .ok (.iconst 1, 1) := by decide +kernel
theorem dX10_loan_31 : decode cX10_loan 31 = .ok (.goto 4, 3) := by decide +kernel
theorem dX10_loan_34 : decode cX10_loan 34 = .ok (.iconst 0, 1) := by decide +kernel
theorem dX10_loan_35 : decode cX10_loan 35 = .ok (.ireturn, 1) := by decide +kernel
theorem dX10_loan_36 : decode cX10_loan 36 = .ok (.aload_n 0, 1) := by decide +kernel
theorem dX10_loan_37 : decode cX10_loan 37 = .ok (.getfield 62, 3) := by decide +kernel
theorem dX10_loan_40 : decode cX10_loan 40 = .ok (.getfield 139, 3) := by decide +kernel
theorem dX10_loan_43 : decode cX10_loan 43 = .ok (.iload_n 1, 1) := by decide +kernel
theorem dX10_loan_44 : decode cX10_loan 44 = .ok (.iload_n 2, 1) := by decide +kernel
theorem dX10_loan_45 : decode cX10_loan 45 = .ok (.invokevirtual 172, 3) := by decide +kernel
theorem dX10_loan_48 : decode cX10_loan 48 = .ok (.ireturn, 1) := by decide +kernel
theorem dX10_drown_0 : decode cX10_drown 0 = .ok (.aload_n 0, 1) := by decide +kernel
theorem dX10_drown_1 : decode cX10_drown 1 = .ok (.aload_n 0, 1) := by decide +kernel
theorem dX10_drown_2 : decode cX10_drown 2 = .ok (.getfield 62, 3) := by decide +kernel
theorem dX10_drown_5 : decode cX10_drown 5 = .ok (.iload_n 1, 1) := by decide +kernel
theorem dX10_drown_6 : decode cX10_drown 6 = .ok (.invokevirtual 258, 3) := by decide +kernel
theorem dX10_drown_9 : decode cX10_drown 9 = .ok (.iconst 3, 1) := by decide +kernel
theorem dX10_drown_10 : decode cX10_drown 10 = .ok (.invokevirtual 83, 3) := by decide +kernel
theorem dX10_drown_13 : decode cX10_drown 13 = .ok (.ireturn, 1) := by decide +kernel
theorem dX10_melt_0 : decode cX10_melt 0 = .ok (.aload_n 0, 1) := by decide +kernel
theorem dX10_melt_1 : decode cX10_melt 1 = .ok (.aload_n 0, 1) := by decide +kernel
theorem dX10_melt_2 : decode cX10_melt 2 = .ok (.getfield 62, 3) := by decide +kernel
theorem dX10_melt_5 : decode cX10_melt 5 = .ok (.iload_n 1, 1) := by decide +kernel
theorem dX10_melt_6 : decode cX10_melt 6 = .ok (.iload_n 2, 1) := by decide +kernel
theorem dX10_melt_7 : decode cX10_melt 7 = .ok (.invokevirtual 261, 3) := by decide +kernel
theorem dX10_melt_10 : decode cX10_melt 10 = .ok (.iconst 3, 1) := by decide +kernel
theorem dX10_melt_11 : decode cX10_melt 11 = .ok (.invokevirtual 83, 3) := by decide +kernel
theorem dX10_melt_14 : decode cX10_melt 14 = .ok (.ireturn, 1) := by decide +kernel
theorem dX10_heir_0 : decode cX10_heir 0 = .ok (.aload_n 0, 1) := by decide +kernel
theorem dX10_heir_1 : decode cX10_heir 1 = .ok (.aload_n 0, 1) := by decide +kernel
theorem dX10_heir_2 : decode cX10_heir 2 = .ok (.getfield 62, 3) := by decide +kernel
theorem dX10_heir_5 : decode cX10_heir 5 = .ok (.iload_n 1, 1) := by decide +kernel
theorem dX10_heir_6 : decode cX10_heir 6 = .ok (.iload_n 2, 1) := by decide +kernel
theorem dX10_heir_7 : decode cX10_heir 7 = .ok (.invokevirtual 264, 3) := by decide +kernel
theorem dX10_heir_10 : decode cX10_heir 10 = .ok (.iconst 3, 1) := by decide +kernel
theorem dX10_heir_11 : decode cX10_heir 11 = .ok (.invokevirtual 83, 3) := by decide +kernel
theorem dX10_heir_14 : decode cX10_heir 14 = .ok (.ireturn, 1) := by decide +kernel
theorem dX10_years_0 : decode cX10_years 0 = .ok (.aload_n 0, 1) := by decide +kernel
theorem dX10_years_1 : decode cX10_years 1 = .ok (.aload_n 0, 1) := by decide +kernel
theorem dX10_years_2 : decode cX10_years 2 = .ok (.getfield 62, 3) := by decide +kernel
theorem dX10_years_5 : decode cX10_years 5 = .ok (.iload_n 1, 1) := by decide +kernel
theorem dX10_years_6 : decode cX10_years 6 = .ok (.invokevirtual 267, 3) := by decide +kernel
theorem dX10_years_9 : decode cX10_years 9 = .ok (.iconst 4, 1) := by decide +kernel
theorem dX10_years_10 : decode cX10_years 10 = .ok (.invokevirtual 83, 3) := by decide +kernel
theorem dX10_years_13 : decode cX10_years 13 = .ok (.ireturn, 1) := by decide +kernel
theorem dX10_feast_0 : decode cX10_feast 0 = .ok (.iconst 0, 1) := by decide +kernel
theorem dX10_feast_1 : decode cX10_feast 1 = .ok (.istore_n 1, 1) := by decide +kernel
theorem dX10_feast_2 : decode cX10_feast 2 = .ok (.iconst 0, 1) := by decide +kernel
theorem dX10_feast_3 : decode cX10_feast 3 = .ok (.istore_n 2, 1) := by decide +kernel
theorem dX10_feast_4 : decode cX10_feast 4 = .ok (.iload_n 2, 1) := by decide +kernel
theorem dX10_feast_5 : decode cX10_feast 5 = .ok (.aload_n 0, 1) := by decide +kernel
theorem dX10_feast_6 : decode cX10_feast 6 = .ok (.getfield 53, 3) := by decide +kernel
theorem dX10_feast_9 : decode cX10_feast 9 = .ok (.getfield 106, 3) := by decide +kernel
theorem dX10_feast_12 : decode cX10_feast 12 = .ok (.getfield 115, 3) := by decide +kernel
theorem dX10_feast_15 : decode cX10_feast 15 = .ok (.getfield 119, 3) := by decide +kernel
theorem dX10_feast_18 : decode cX10_feast 18 = .ok (.if_icmp .ge 55, 3) := by decide +kernel
theorem dX10_feast_21 : decode cX10_feast 21 = .ok (.aload_n 0, 1) := by decide +kernel
theorem dX10_feast_22 : decode cX10_feast 22 = .ok (.getfield 62, 3) := by decide +kernel
theorem dX10_feast_25 : decode cX10_feast 25 = .ok (.aload_n 0, 1) := by decide +kernel
theorem dX10_feast_26 : decode cX10_feast 26 = .ok (.getfield 62, 3) := by decide +kernel
theorem dX10_feast_29 : decode cX10_feast 29 = .ok (.iload_n 2, 1) := by decide +kernel
theorem dX10_feast_30 : decode cX10_feast 30 = .ok (.invokevirtual 270, 3) := by decide +kernel
theorem dX10_feast_33 : decode cX10_feast 33 = .ok (.iconst 1, 1) := by decide +kernel
theorem dX10_feast_34 : decode cX10_feast 34 = .ok (.iadd, 1) := by decide +kernel
theorem dX10_feast_35 : decode cX10_feast 35 = .ok (.invokevirtual 273, 3) := by decide +kernel
theorem dX10_feast_38 : decode cX10_feast 38 = .ok (.istore_n 3, 1) := by decide +kernel
theorem dX10_feast_39 : decode cX10_feast 39 = .ok (.iload_n 3, 1) := by decide +kernel
theorem dX10_feast_40 : decode cX10_feast 40 = .ok (.ifCond .le 27, 3) := by decide +kernel
theorem dX10_feast_43 : decode cX10_feast 43 = .ok (.aload_n 0, 1) := by decide +kernel
theorem dX10_feast_44 : decode cX10_feast 44 = .ok (.getfield 62, 3) := by decide +kernel
theorem dX10_feast_47 : decode cX10_feast 47 = .ok (.iload_n 2, 1) := by decide +kernel
theorem dX10_feast_48 : decode cX10_feast 48 = .ok (.aload_n 0, 1) := by decide +kernel
theorem dX10_feast_49 : decode cX10_feast 49 = .ok (.getfield 62, 3) := by decide +kernel
theorem dX10_feast_52 : decode cX10_feast 52 = .ok (.iload_n 2, 1) := by decide +kernel
theorem dX10_feast_53 : decode cX10_feast 53 = .ok (.iload_n 3, 1) := by decide +kernel
theorem dX10_feast_54 : decode cX10_feast 54 = .ok (.invokevirtual 276, 3) := by decide +kernel
theorem dX10_feast_57 : decode cX10_feast 57 = .ok (.invokevirtual 234, 3) := by decide +kernel
theorem dX10_feast_60 : decode cX10_feast 60 = .ok (.iconst (-1), 1) := by decide +kernel
theorem dX10_feast_61 : decode cX10_feast 61 = .ok (.if_icmp .eq 6, 3) := by decide +kernel
theorem dX10_feast_64 : decode cX10_feast 64 = .ok (.iinc 1 1, 3) := by decide +kernel
theorem dX10_feast_67 : decode cX10_feast 67 = .ok (.iinc 2 1, 3) := by decide +kernel
theorem dX10_feast_70 : decode cX10_feast 70 = .ok (.goto (-66), 3) := by decide +kernel
theorem dX10_feast_73 : decode cX10_feast 73 = .ok (.iload_n 1, 1) := by decide +kernel
theorem dX10_feast_74 : decode cX10_feast 74 = .ok (.ireturn, 1) := by decide +kernel
theorem dX10_seed_0 : decode cX10_seed 0 = .ok (.aload_n 0, 1) := by decide +kernel
theorem dX10_seed_1 : decode cX10_seed 1 = .ok (.aload_n 0, 1) := by decide +kernel
theorem dX10_seed_2 : decode cX10_seed 2 = .ok (.getfield 62, 3) := by decide +kernel
theorem dX10_seed_5 : decode cX10_seed 5 = .ok (.iload_n 1, 1) := by decide +kernel
theorem dX10_seed_6 : decode cX10_seed 6 = .ok (.invokevirtual 279, 3) := by decide +kernel
theorem dX10_seed_9 : decode cX10_seed 9 = .ok (.iconst 4, 1) := by decide +kernel
theorem dX10_seed_10 : decode cX10_seed 10 = .ok (.invokevirtual 91, 3) := by decide +kernel
theorem dX10_seed_13 : decode cX10_seed 13 = .ok (.ireturn, 1) := by decide +kernel
theorem dX10_signed_0 : decode cX10_signed 0 = .ok (.aload_n 0, 1) := by decide +kernel
theorem dX10_signed_1 : decode cX10_signed 1 = .ok (.getfield 53, 3) := by decide +kernel
theorem dX10_signed_4 : decode cX10_signed 4 = .ok (.getfield 106, 3) := by decide +kernel
theorem dX10_signed_7 : decode cX10_signed 7 = .ok (.getfield 124, 3) := by decide +kernel
theorem dX10_signed_10 : decode cX10_signed 10 = .ok (.iload_n 1, 1) := by decide +kernel
theorem dX10_signed_11 : decode cX10_signed 11 = .ok (.invokevirtual 165, 3) := by decide +kernel
theorem dX10_signed_14 : decode cX10_signed 14 = .ok (.ifCond .eq 14, 3) := by decide +kernel
theorem dX10_signed_17 : decode cX10_signed 17 = .ok (.iload_n 2, 1) := by decide +kernel
theorem dX10_signed_18 : decode cX10_signed 18 = .ok (.ifCond .lt 10, 3) := by decide +kernel
theorem dX10_signed_21 : decode cX10_signed 21 = .ok (.iload_n 2, 1) := by decide +kernel
theorem dX10_signed_22 : decode cX10_signed 22 = .ok (.sipush 999, 3) := by decide +kernel
theorem dX10_signed_25 : decode cX10_signed 25 = .ok (.if_icmp .le 5, 3) := by decide +kernel
theorem dX10_signed_28 : decode cX10_signed 28 = .ok (.iconst (-1), 1) := by decide +kernel
theorem dX10_signed_29 : decode cX10_signed 29 = .ok (.ireturn, 1) := by decide +kernel
theorem dX10_signed_30 : decode cX10_signed 30 = .ok (.aload_n 0, 1) := by decide +kernel
theorem dX10_signed_31 : decode cX10_signed 31 = .ok (.getfield 53, 3) := by decide +kernel
theorem dX10_signed_34 : decode cX10_signed 34 = .ok (.iload_n 1, 1) := by decide +kernel
theorem dX10_signed_35 : decode cX10_signed 35 = .ok (.iload_n 2, 1) := by decide +kernel
theorem dX10_signed_36 : decode cX10_signed 36 = .ok (.invokevirtual 282, 3) := by decide +kernel
theorem dX10_signed_39 : decode cX10_signed 39 = .ok (.ireturn, 1) := by decide +kernel
theorem dX10_span_0 : decode cX10_span 0 = .ok (.aload_n 0, 1) := by decide +kernel
theorem dX10_span_1 : decode cX10_span 1 = .ok (.getfield 53, 3) := by decide +kernel
theorem dX10_span_4 : decode cX10_span 4 = .ok (.getfield 285, 3) := by decide +kernel
theorem dX10_span_7 : decode cX10_span 7 = .ok (.iload_n 1, 1) := by decide +kernel
theorem dX10_span_8 : decode cX10_span 8 = .ok (.iload_n 2, 1) := by decide +kernel
theorem dX10_span_9 : decode cX10_span 9 = .ok (.invokevirtual 288, 3) := by decide +kernel
theorem dX10_span_12 : decode cX10_span 12 = .ok (.ireturn, 1) := by decide +kernel
theorem dX10_moved_0 : decode cX10_moved 0 = .ok (.aload_n 0, 1) := by decide +kernel
theorem dX10_moved_1 : decode cX10_moved 1 = .ok (.getfield 62, 3) := by decide +kernel
theorem dX10_moved_4 : decode cX10_moved 4 = .ok (.getfield 145, 3) := by decide +kernel
theorem dX10_moved_7 : decode cX10_moved 7 = .ok (.iload_n 1, 1) := by decide +kernel
theorem dX10_moved_8 : decode cX10_moved 8 = .ok (.iload_n 2, 1) := by decide +kernel
theorem dX10_moved_9 : decode cX10_moved 9 = .ok (.invokevirtual 288, 3) := by decide +kernel
theorem dX10_moved_12 : decode cX10_moved 12 = .ok (.ireturn, 1) := by decide +kernel
theorem dX10_share_0 : decode cX10_share 0 = .ok (.aload_n 0, 1) := by decide +kernel
theorem dX10_share_1 : decode cX10_share 1 = .ok (.getfield 53, 3) := by decide +kernel
theorem dX10_share_4 : decode cX10_share 4 = .ok (.iload_n 1, 1) := by decide +kernel
theorem dX10_share_5 : decode cX10_share 5 = .ok (.invokevirtual 181, 3) := by decide +kernel
theorem dX10_share_8 : decode cX10_share 8 = .ok (.ifCond .eq 22, 3) := by decide +kernel
theorem dX10_share_11 : decode cX10_share 11 = .ok (.iload_n 2, 1) := by decide +kernel
theorem dX10_share_12 : decode cX10_share 12 = .ok (.ifCond .lt 18, 3) := by decide +kernel
theorem dX10_share_15 : decode cX10_share 15 = .ok (.iload_n 2, 1) := by decide +kernel
theorem dX10_share_16 : decode cX10_share 16 = .ok (.bipush 40, 2) := by decide +kernel
theorem dX10_share_18 : decode cX10_share 18 = .ok (.if_icmp .gt 12, 3) := by decide +kernel
theorem dX10_share_21 : decode cX10_share 21 = .ok (.iload_n 3, 1) := by decide +kernel
theorem dX10_share_22 : decode cX10_share 22 = .ok (.ifCond .lt 8, 3) := by decide +kernel
theorem dX10_share_25 : decode cX10_share 25 = .ok (.iload_n 3, 1) := by decide +kernel
theorem dX10_share_26 : decode cX10_share 26 = .ok (.iload_n 2, 1) := by decide +kernel
theorem dX10_share_27 : decode cX10_share 27 = .ok (.if_icmp .le 5, 3) := by decide +kernel
theorem dX10_share_30 : decode cX10_share 30 = .ok (.iconst (-1), 1) := by decide +kernel
theorem dX10_share_31 : decode cX10_share 31 = .ok (.ireturn, 1) := by decide +kernel
theorem dX10_share_32 : decode cX10_share 32 = .ok (.aload_n 0, 1) := by decide +kernel
theorem dX10_share_33 : decode cX10_share 33 = .ok (.getfield 53, 3) := by decide +kernel
theorem dX10_share_36 : decode cX10_share 36 = .ok (.getfield 106, 3) := by decide +kernel
theorem dX10_share_39 : decode cX10_share 39 = .ok (.iload_n 1, 1) := by decide +kernel
theorem dX10_share_40 : decode cX10_share 40 = .ok (.iload_n 2, 1) := by decide +kernel
theorem dX10_share_41 : decode cX10_share 41 = .ok (.iload_n 3, 1) := by decide +kernel
theorem dX10_share_42 : decode cX10_share 42 = .ok (.invokevirtual 289, 3) := by decide +kernel
theorem dX10_share_45 : decode cX10_share 45 = .ok (.ireturn, 1) := by decide +kernel
theorem dX10_bullets_0 : decode cX10_bullets 0 = .ok (.iload_n 1, 1) := by decide +kernel
theorem dX10_bullets_1 : decode cX10_bullets 1 = .ok (.ifCond .lt 19, 3) := by decide +kernel
theorem dX10_bullets_4 : decode cX10_bullets 4 = .ok (.iload_n 1, 1) := by decide +kernel
theorem dX10_bullets_5 : decode cX10_bullets 5 = .ok (.ldc_w 292, 3) := by decide +kernel
theorem dX10_bullets_8 : decode cX10_bullets 8 = .ok (.if_icmp .gt 12, 3) := by decide +kernel
theorem dX10_bullets_11 : decode cX10_bullets 11 = .ok (.iload_n 2, 1) := by decide +kernel
theorem dX10_bullets_12 : decode cX10_bullets 12 = .ok (.ifCond .lt 8, 3) := by decide +kernel
theorem dX10_bullets_15 : decode cX10_bullets 15 = .ok (.iload_n 2, 1) := by decide +kernel
theorem dX10_bullets_16 : decode cX10_bullets 16 = .ok (.iconst 1, 1) := by decide +kernel
theorem dX10_bullets_17 : decode cX10_bullets 17 = .ok (.if_icmp .le 5, 3) := by decide +kernel
theorem dX10_bullets_20 : decode cX10_bullets 20 = .ok (.iconst (-1), 1) := by decide +kernel
theorem dX10_bullets_21 : decode cX10_bullets 21 = .ok (.ireturn, 1) := by decide +kernel
theorem dX10_bullets_22 : decode cX10_bullets 22 = .ok (.aload_n 0, 1) := by decide +kernel
theorem dX10_bullets_23 : decode cX10_bullets 23 = .ok (.getfield 44, 3) := by decide +kernel
theorem dX10_bullets_26 : decode cX10_bullets 26 = .ok (.aload_n 0, 1) := by decide +kernel
theorem dX10_bullets_27 : decode cX10_bullets 27 = .ok (.getfield 53, 3) := by decide +kernel
theorem dX10_bullets_30 : decode cX10_bullets 30 = .ok (.getfield 293, 3) := by decide +kernel
theorem dX10_bullets_33 : decode cX10_bullets 33 = .ok (.aload_n 0, 1) := by decide +kernel
theorem dX10_bullets_34 : decode cX10_bullets 34 = .ok (.getfield 53, 3) := by decide +kernel
theorem dX10_bullets_37 : decode cX10_bullets 37 = .ok (.getfield 142, 3) := by decide +kernel
theorem dX10_bullets_40 : decode cX10_bullets 40 = .ok (.iload_n 1, 1) := by decide +kernel
theorem dX10_bullets_41 : decode cX10_bullets 41 = .ok (.invokevirtual 296, 3) := by decide +kernel
theorem dX10_bullets_44 : decode cX10_bullets 44 = .ok (.iload_n 2, 1) := by decide +kernel
theorem dX10_bullets_45 : decode cX10_bullets 45 = .ok (.ifCond .ne 13, 3) := by decide +kernel
theorem dX10_bullets_48 : decode cX10_bullets 48 = .ok (.aload_n 0, 1) := by decide +kernel
theorem dX10_bullets_49 : decode cX10_bullets 49 = .ok (.getfield 44, 3) := by decide +kernel
theorem dX10_bullets_52 : decode cX10_bullets 52 = .ok (.getfield 300, 3) := by decide +kernel
theorem dX10_bullets_55 : decode cX10_bullets 55 = .ok (.goto 10, 3) := by decide +kernel
theorem dX10_bullets_58 : decode cX10_bullets 58 = .ok (.aload_n 0, 1) := by decide +kernel
theorem dX10_bullets_59 : decode cX10_bullets 59 = .ok (.getfield 44, 3) := by decide +kernel
theorem dX10_bullets_62 : decode cX10_bullets 62 = .ok (.getfield 303, 3) := by decide +kernel
theorem dX10_bullets_65 : decode cX10_bullets 65 = .ok (.ireturn, 1) := by decide +kernel
theorem dX10_row_0 : decode cX10_row 0 = .ok (.aload_n 0, 1) := by decide +kernel
theorem dX10_row_1 : decode cX10_row 1 = .ok (.getfield 53, 3) := by decide +kernel
theorem dX10_row_4 : decode cX10_row 4 = .ok (.getfield 106, 3) := by decide +kernel
theorem dX10_row_7 : decode cX10_row 7 = .ok (.astore 4, 2) := by decide +kernel
theorem dX10_row_9 : decode cX10_row 9 = .ok (.aload 4, 2) := by decide +kernel
theorem dX10_row_11 : decode cX10_row 11 = .ok (.getfield 124, 3) := by decide +kernel
theorem dX10_row_14 : decode cX10_row 14 = .ok (.iload_n 1, 1) := by decide +kernel
theorem dX10_row_15 : decode cX10_row 15 = .ok (.invokevirtual 165, 3) := by decide +kernel
theorem dX10_row_18 : decode cX10_row 18 = .ok (.ifCond .eq 20, 3) := by decide +kernel
theorem dX10_row_21 : decode cX10_row 21 = .ok (.aload 4, 2) := by decide +kernel
theorem dX10_row_23 : decode cX10_row 23 = .ok (.getfield 124, 3) := by decide +kernel
theorem dX10_row_26 : decode cX10_row 26 = .ok (.iload_n 2, 1) := by decide +kernel
theorem dX10_row_27 : decode cX10_row 27 = .ok (.invokevirtual 165, 3) := by decide +kernel
theorem dX10_row_30 : decode cX10_row 30 = .ok (.ifCond .eq 8, 3) := by decide +kernel
theorem dX10_row_33 : decode cX10_row 33 = .ok (.iload_n 1, 1) := by decide +kernel
theorem dX10_row_34 : decode cX10_row 34 = .ok (.iload_n 2, 1) := by decide +kernel
theorem dX10_row_35 : decode cX10_row 35 = .ok (.if_icmp .ne 5, 3) := by decide +kernel
theorem dX10_row_38 : decode cX10_row 38 = .ok (.iconst (-1), 1) := by decide +kernel
theorem dX10_row_39 : decode cX10_row 39 = .ok (.ireturn, 1) := by decide +kernel
theorem dX10_row_40 : decode cX10_row 40 = .ok (.iload_n 3, 1) := by decide +kernel
theorem dX10_row_41 : decode cX10_row 41 = .ok (.tableswitch 59 0 2 #[27, 43, 51], 27) := by decide +kernel
theorem dX10_row_68 : decode cX10_row 68 = .ok (.aload 4, 2) := by decide +kernel
theorem dX10_row_70 : decode cX10_row 70 = .ok (.iload_n 1, 1) := by decide +kernel
theorem dX10_row_71 : decode cX10_row 71 = .ok (.iload_n 2, 1) := by decide +kernel
theorem dX10_row_72 : decode cX10_row 72 = .ok (.invokevirtual 306, 3) := by decide +kernel
theorem dX10_row_75 : decode cX10_row 75 = .ok (.aload 4, 2) := by decide +kernel
theorem dX10_row_77 : decode cX10_row 77 = .ok (.iload_n 1, 1) := by decide +kernel
theorem dX10_row_78 : decode cX10_row 78 = .ok (.iload_n 2, 1) := by decide +kernel
theorem dX10_row_79 : decode cX10_row 79 = .ok (.invokevirtual 309, 3) := by decide +kernel
theorem dX10_row_82 : decode cX10_row 82 = .ok (.isub, 1) := by decide +kernel
theorem dX10_row_83 : decode cX10_row 83 = .ok (.ireturn, 1) := by decide +kernel
theorem dX10_row_84 : decode cX10_row 84 = .ok (.aload 4, 2) := by decide +kernel
theorem dX10_row_86 : decode cX10_row 86 = .ok (.iload_n 1, 1) := by decide +kernel
theorem dX10_row_87 : decode cX10_row 87 = .ok (.iload_n 2, 1) := by decide +kernel
theorem dX10_row_88 : decode cX10_row 88 = .ok (.invokevirtual 312, 3) := by decide +kernel
theorem dX10_row_91 : decode cX10_row 91 = .ok (.ireturn, 1) := by decide +kernel
theorem dX10_row_92 : decode cX10_row 92 = .ok (.aload 4, 2) := by decide +kernel
theorem dX10_row_94 : decode cX10_row 94 = .ok (.iload_n 1, 1) := by decide +kernel
theorem dX10_row_95 : decode cX10_row 95 = .ok (.iload_n 2, 1) := by decide +kernel
theorem dX10_row_96 : decode cX10_row 96 = .ok (.invokevirtual 309, 3) := by decide +kernel
theorem dX10_row_99 : decode cX10_row 99 = .ok (.ireturn, 1) := by decide +kernel
theorem dX10_row_100 : decode cX10_row 100 = .ok (.iconst (-1), 1) := by decide +kernel
theorem dX10_row_101 : decode cX10_row 101 = .ok (.ireturn, 1) := by decide +kernel
theorem dX10_goings_0 : decode cX10_goings 0 = .ok (.aload_n 0, 1) := by decide +kernel
theorem dX10_goings_1 : decode cX10_goings 1 = .ok (.getfield 53, 3) := by decide +kernel
theorem dX10_goings_4 : decode cX10_goings 4 = .ok (.getfield 106, 3) := by decide +kernel
theorem dX10_goings_7 : decode cX10_goings 7 = .ok (.getfield 133, 3) := by decide +kernel
theorem dX10_goings_10 : decode cX10_goings 10 = .ok (.iload_n 1, 1) := by decide +kernel
theorem dX10_goings_11 : decode cX10_goings 11 = .ok (.invokevirtual 165, 3) := by decide +kernel
theorem dX10_goings_14 : decode cX10_goings 14 = .ok (.ifCond .eq 26, 3) := by decide +kernel
theorem dX10_goings_17 : decode cX10_goings 17 = .ok (.iload_n 2, 1) := by decide +kernel
theorem dX10_goings_18 : decode cX10_goings 18 = .ok (.ifCond .lt 22, 3) := by decide +kernel
theorem dX10_goings_21 : decode cX10_goings 21 = .ok (.iload_n 2, 1) := by decide +kernel
theorem dX10_goings_22 : decode cX10_goings 22 = .ok (.iconst 1, 1) := by decide +kernel
theorem dX10_goings_23 : decode cX10_goings 23 = .ok (.aload_n 0, 1) := by decide +kernel
theorem dX10_goings_24 : decode cX10_goings 24 = .ok (.getfield 53, 3) := by decide +kernel
theorem dX10_goings_27 : decode cX10_goings 27 = .ok (.getfield 106, 3) := by decide +kernel
theorem dX10_goings_30 : decode cX10_goings 30 = .ok (.getfield 115, 3) := by decide +kernel
theorem dX10_goings_33 : decode cX10_goings 33 = .ok (.getfield 119, 3) := by decide +kernel
theorem dX10_goings_36 : decode cX10_goings 36 = .ok (.ishl, 1) := by decide +kernel
theorem dX10_goings_37 : decode cX10_goings 37 = .ok (.if_icmp .lt 5, 3) := by decide +kernel
theorem dX10_goings_40 : decode cX10_goings 40 = .ok (.iconst (-1), 1) := by decide +kernel
theorem dX10_goings_41 : decode cX10_goings 41 = .ok (.ireturn, 1) := by decide +kernel
theorem dX10_goings_42 : decode cX10_goings 42 = .ok (.aload_n 0, 1) := by decide +kernel
theorem dX10_goings_43 : decode cX10_goings 43 = .ok (.getfield 44, 3) := by decide +kernel
theorem dX10_goings_46 : decode cX10_goings 46 = .ok (.aload_n 0, 1) := by decide +kernel
theorem dX10_goings_47 : decode cX10_goings 47 = .ok (.getfield 53, 3) := by decide +kernel
theorem dX10_goings_50 : decode cX10_goings 50 = .ok (.iload_n 2, 1) := by decide +kernel
theorem dX10_goings_51 : decode cX10_goings 51 = .ok (.aload_n 0, 1) := by decide +kernel
theorem dX10_goings_52 : decode cX10_goings 52 = .ok (.getfield 53, 3) := by decide +kernel
theorem dX10_goings_55 : decode cX10_goings 55 = .ok (.getfield 106, 3) := by decide +kernel
theorem dX10_goings_58 : decode cX10_goings 58 = .ok (.getfield 133, 3) := by decide +kernel
theorem dX10_goings_61 : decode cX10_goings 61 = .ok (.iload_n 1, 1) := by decide +kernel
theorem dX10_goings_62 : decode cX10_goings 62 = .ok (.iconst 0, 1) := by decide +kernel
theorem dX10_goings_63 : decode cX10_goings 63 = .ok (.invokevirtual 172, 3) := by decide +kernel
theorem dX10_goings_66 : decode cX10_goings 66 = .ok (.invokevirtual 315, 3) := by decide +kernel
theorem dX10_goings_69 : decode cX10_goings 69 = .ok (.ireturn, 1) := by decide +kernel
theorem dX10_common_0 : decode cX10_common 0 = .ok (.aload_n 0, 1) := by decide +kernel
theorem dX10_common_1 : decode cX10_common 1 = .ok (.getfield 53, 3) := by decide +kernel
theorem dX10_common_4 : decode cX10_common 4 = .ok (.iload_n 1, 1) := by decide +kernel
theorem dX10_common_5 : decode cX10_common 5 = .ok (.invokevirtual 181, 3) := by decide +kernel
theorem dX10_common_8 : decode cX10_common 8 = .ok (.ifCond .eq 19, 3) := by decide +kernel
theorem dX10_common_11 : decode cX10_common 11 = .ok (.aload_n 0, 1) := by decide +kernel
theorem dX10_common_12 : decode cX10_common 12 = .ok (.getfield 53, 3) := by decide +kernel
theorem dX10_common_15 : decode cX10_common 15 = .ok (.iload_n 2, 1) := by decide +kernel
theorem dX10_common_16 : decode cX10_common 16 = .ok (.invokevirtual 181, 3) := by decide +kernel
theorem dX10_common_19 : decode cX10_common 19 = .ok (.ifCond .eq 8, 3) := by decide +kernel
theorem dX10_common_22 : decode cX10_common 22 = .ok (.iload_n 1, 1) := by decide +kernel
theorem dX10_common_23 : decode cX10_common 23 = .ok (.iload_n 2, 1) := by decide +kernel
theorem dX10_common_24 : decode cX10_common 24 = .ok (.if_icmp .ne 5, 3) := by decide +kernel
theorem dX10_common_27 : decode cX10_common 27 = .ok (.iconst (-1), 1) := by decide +kernel
theorem dX10_common_28 : decode cX10_common 28 = .ok (.ireturn, 1) := by decide +kernel
theorem dX10_common_29 : decode cX10_common 29 = .ok (.aload_n 0, 1) := by decide +kernel
theorem dX10_common_30 : decode cX10_common 30 = .ok (.getfield 53, 3) := by decide +kernel
theorem dX10_common_33 : decode cX10_common 33 = .ok (.iload_n 1, 1) := by decide +kernel
theorem dX10_common_34 : decode cX10_common 34 = .ok (.iload_n 2, 1) := by decide +kernel
theorem dX10_common_35 : decode cX10_common 35 = .ok (.invokevirtual 319, 3) := by decide +kernel
theorem dX10_common_38 : decode cX10_common 38 = .ok (.ireturn, 1) := by decide +kernel
theorem dX10_image_0 : decode cX10_image 0 = .ok (.aload_n 0, 1) := by decide +kernel
theorem dX10_image_1 : decode cX10_image 1 = .ok (.getfield 69, 3) := by decide +kernel
theorem dX10_image_4 : decode cX10_image 4 = .ok (.aload_n 0, 1) := by decide +kernel
theorem dX10_image_5 : decode cX10_image 5 = .ok (.getfield 53, 3) := by decide +kernel
theorem dX10_image_8 : decode cX10_image 8 = .ok (.invokevirtual 322, 3) := by decide +kernel
theorem dX10_image_11 : decode cX10_image 11 = .ok (.aload_n 0, 1) := by decide +kernel
theorem dX10_image_12 : decode cX10_image 12 = .ok (.getfield 69, 3) := by decide +kernel
theorem dX10_image_15 : decode cX10_image 15 = .ok (.getfield 326, 3) := by decide +kernel
theorem dX10_image_18 : decode cX10_image 18 = .ok (.ireturn, 1) := by decide +kernel
theorem dX10_octet_0 : decode cX10_octet 0 = .ok (.iload_n 1, 1) := by decide +kernel
theorem dX10_octet_1 : decode cX10_octet 1 = .ok (.ifCond .lt 14, 3) := by decide +kernel
theorem dX10_octet_4 : decode cX10_octet 4 = .ok (.iload_n 1, 1) := by decide +kernel
theorem dX10_octet_5 : decode cX10_octet 5 = .ok (.aload_n 0, 1) := by decide +kernel
theorem dX10_octet_6 : decode cX10_octet 6 = .ok (.getfield 69, 3) := by decide +kernel
theorem dX10_octet_9 : decode cX10_octet 9 = .ok (.getfield 326, 3) := by decide +kernel
theorem dX10_octet_12 : decode cX10_octet 12 = .ok (.if_icmp .lt 7, 3) := by decide +kernel
theorem dX10_octet_15 : decode cX10_octet 15 = .ok (.iconst (-1), 1) := by decide +kernel
theorem dX10_octet_16 : decode cX10_octet 16 = .ok (.goto 12, 3) := by decide +kernel
theorem dX10_octet_19 : decode cX10_octet 19 = .ok (.aload_n 0, 1) := by decide +kernel
theorem dX10_octet_20 : decode cX10_octet 20 = .ok (.getfield 69, 3) := by decide +kernel
theorem dX10_octet_23 : decode cX10_octet 23 = .ok (.getfield 329, 3) := by decide +kernel
theorem dX10_octet_26 : decode cX10_octet 26 = .ok (.iload_n 1, 1) := by decide +kernel
theorem dX10_octet_27 : decode cX10_octet 27 = .ok (.iaload, 1) := by decide +kernel
theorem dX10_octet_28 : decode cX10_octet 28 = .ok (.ireturn, 1) := by decide +kernel
theorem dX10_on_0 : decode cX10_on 0 = .ok (.aload_n 0, 1) := by decide +kernel
theorem dX10_on_1 : decode cX10_on 1 = .ok (.getfield 73, 3) := by decide +kernel
theorem dX10_on_4 : decode cX10_on 4 = .ok (.istore_n 1, 1) := by decide +kernel
theorem dX10_on_5 : decode cX10_on 5 = .ok (.aload_n 0, 1) := by decide +kernel
theorem dX10_on_6 : decode cX10_on 6 = .ok (.iconst 0, 1) := by decide +kernel
theorem dX10_on_7 : decode cX10_on 7 = .ok (.putfield 73, 3) := by decide +kernel
theorem dX10_on_10 : decode cX10_on 10 = .ok (.aload_n 0, 1) := by decide +kernel
theorem dX10_on_11 : decode cX10_on 11 = .ok (.getfield 9, 3) := by decide +kernel
theorem dX10_on_14 : decode cX10_on 14 = .ok (.iload_n 1, 1) := by decide +kernel
theorem dX10_on_15 : decode cX10_on 15 = .ok (.aload_n 0, 1) := by decide +kernel
theorem dX10_on_16 : decode cX10_on 16 = .ok (.getfield 53, 3) := by decide +kernel
theorem dX10_on_19 : decode cX10_on 19 = .ok (.invokestatic 332, 3) := by decide +kernel
theorem dX10_on_22 : decode cX10_on 22 = .ok (.ifCond .ne 10, 3) := by decide +kernel
theorem dX10_on_25 : decode cX10_on 25 = .ok (.aload_n 0, 1) := by decide +kernel
theorem dX10_on_26 : decode cX10_on 26 = .ok (.iconst 0, 1) := by decide +kernel
theorem dX10_on_27 : decode cX10_on 27 = .ok (.iconst 5, 1) := by decide +kernel
theorem dX10_on_28 : decode cX10_on 28 = .ok (.invokevirtual 91, 3) := by decide +kernel
theorem dX10_on_31 : decode cX10_on 31 = .ok (.ireturn, 1) := by decide +kernel
theorem dX10_on_32 : decode cX10_on 32 = .ok (.aload_n 0, 1) := by decide +kernel
theorem dX10_on_33 : decode cX10_on 33 = .ok (.getfield 9, 3) := by decide +kernel
theorem dX10_on_36 : decode cX10_on 36 = .ok (.aload_n 0, 1) := by decide +kernel
theorem dX10_on_37 : decode cX10_on 37 = .ok (.getfield 53, 3) := by decide +kernel
theorem dX10_on_40 : decode cX10_on 40 = .ok (.invokestatic 336, 3) := by decide +kernel
theorem dX10_on_43 : decode cX10_on 43 = .ok (.aload_n 0, 1) := by decide +kernel
theorem dX10_on_44 : decode cX10_on 44 = .ok (.getfield 62, 3) := by decide +kernel
theorem dX10_on_47 : decode cX10_on 47 = .ok (.invokevirtual 112, 3) := by decide +kernel
theorem dX10_on_50 : decode cX10_on 50 = .ok (.iconst 1, 1) := by decide +kernel
theorem dX10_on_51 : decode cX10_on 51 = .ok (.ireturn, 1) := by decide +kernel
theorem dX10_status_0 : decode cX10_status 0 = .ok (.iload_n 1, 1) := by decide +kernel
theorem dX10_status_1 : decode cX10_status 1 = .ok (.ifCond .lt 9, 3) := by decide +kernel
theorem dX10_status_4 : decode cX10_status 4 = .ok (.iload_n 1, 1) := by decide +kernel
theorem dX10_status_5 : decode cX10_status 5 = .ok (.bipush 6, 2) := by decide +kernel
theorem dX10_status_7 : decode cX10_status 7 = .ok (.if_icmp .lt 7, 3) := by decide +kernel
theorem dX10_status_10 : decode cX10_status 10 = .ok (.iconst (-1), 1) := by decide +kernel
theorem dX10_status_11 : decode cX10_status 11 = .ok (.goto 9, 3) := by decide +kernel
theorem dX10_status_14 : decode cX10_status 14 = .ok (.aload_n 0, 1) := by decide +kernel
theorem dX10_status_15 : decode cX10_status 15 = .ok (.getfield 13, 3) := by decide +kernel
theorem dX10_status_18 : decode cX10_status 18 = .ok (.iload_n 1, 1) := by decide +kernel
theorem dX10_status_19 : decode cX10_status 19 = .ok (.iaload, 1) := by decide +kernel
theorem dX10_status_20 : decode cX10_status 20 = .ok (.ireturn, 1) := by decide +kernel
theorem dX10_counted_0 : decode cX10_counted 0 = .ok (.iload_n 1, 1) := by decide +kernel
theorem dX10_counted_1 : decode cX10_counted 1 = .ok (.iconst (-1), 1) := by decide +kernel
theorem dX10_counted_2 : decode cX10_counted 2 = .ok (.if_icmp .ne 23, 3) := by decide +kernel
theorem dX10_counted_5 : decode cX10_counted 5 = .ok (.iload_n 2, 1) := by decide +kernel
theorem dX10_counted_6 : decode cX10_counted 6 = .ok (.ifCond .lt 19, 3) := by decide +kernel
theorem dX10_counted_9 : decode cX10_counted 9 = .ok (.iload_n 2, 1) := by decide +kernel
theorem dX10_counted_10 : decode cX10_counted 10 = .ok (.bipush 6, 2) := by decide +kernel
theorem dX10_counted_12 : decode cX10_counted 12 = .ok (.if_icmp .ge 13, 3) := by decide +kernel
theorem dX10_counted_15 : decode cX10_counted 15 = .ok (.aload_n 0, 1) := by decide +kernel
theorem dX10_counted_16 : decode cX10_counted 16 = .ok (.getfield 13, 3) := by decide +kernel
theorem dX10_counted_19 : decode cX10_counted 19 = .ok (.iload_n 2, 1) := by decide +kernel
theorem dX10_counted_20 : decode cX10_counted 20 = .ok (.dup2, 1) := by decide +kernel
theorem dX10_counted_21 : decode cX10_counted 21 = .ok (.iaload, 1) := by decide +kernel
theorem dX10_counted_22 : decode cX10_counted 22 = .ok (.iconst 1, 1) := by decide +kernel
theorem dX10_counted_23 : decode cX10_counted 23 = .ok (.iadd, 1) := by decide +kernel
theorem dX10_counted_24 : decode cX10_counted 24 = .ok (.iastore, 1) := by decide +kernel
theorem dX10_counted_25 : decode cX10_counted 25 = .ok (.iload_n 1, 1) := by decide +kernel
theorem dX10_counted_26 : decode cX10_counted 26 = .ok (.ireturn, 1) := by decide +kernel
theorem dX10_granted_0 : decode cX10_granted 0 = .ok (.aload_n 0, 1) := by decide +kernel
theorem dX10_granted_1 : decode cX10_granted 1 = .ok (.iload_n 1, 1) := by decide +kernel
theorem dX10_granted_2 : decode cX10_granted 2 = .ok (.ifCond .eq 7, 3) := by decide +kernel
theorem dX10_granted_5 : decode cX10_granted 5 = .ok (.iconst 1, 1) := by decide +kernel
theorem dX10_granted_6 : decode cX10_granted 6 = .ok (.goto 4, 3) := by decide +kernel
theorem dX10_granted_9 : decode cX10_granted 9 = .ok (.iconst (-1), 1) := by decide +kernel
theorem dX10_granted_10 : decode cX10_granted 10 = .ok (.iload_n 2, 1) := by decide +kernel
theorem dX10_granted_11 : decode cX10_granted 11 = .ok (.invokevirtual 83, 3) := by decide +kernel
theorem dX10_granted_14 : decode cX10_granted 14 = .ok (.iconst (-1), 1) := by decide +kernel
theorem dX10_granted_15 : decode cX10_granted 15 = .ok (.if_icmp .eq 7, 3) := by decide +kernel
theorem dX10_granted_18 : decode cX10_granted 18 = .ok (.iconst 1, 1) := by decide +kernel
theorem dX10_granted_19 : decode cX10_granted 19 = .ok (.goto 4, 3) := by decide +kernel
theorem dX10_granted_22 : decode cX10_granted 22 = .ok (.iconst 0, 1) := by decide +kernel
theorem dX10_granted_23 : decode cX10_granted 23 = .ok (.ireturn, 1) := by decide +kernel
theorem dX10_letterIndex_0 : decode cX10_letterIndex 0 = .ok (.iload_n 0, 1) := by decide +kernel
theorem dX10_letterIndex_1 : decode cX10_letterIndex 1 = .ok (.bipush 97, 2) := by decide +kernel
theorem dX10_letterIndex_3 : decode cX10_letterIndex 3 = .ok (.isub, 1) := by decide +kernel
theorem dX10_letterIndex_4 : decode cX10_letterIndex 4 = .ok (.istore_n 1, 1) := by decide +kernel
theorem dX10_letterIndex_5 : decode cX10_letterIndex 5 = .ok (.iload_n 0, 1) := by decide +kernel
theorem dX10_letterIndex_6 : decode cX10_letterIndex 6 = .ok (.bipush 97, 2) := by decide +kernel
theorem dX10_letterIndex_8 : decode cX10_letterIndex 8 = .ok (.if_icmp .lt 9, 3) := by decide +kernel
theorem dX10_letterIndex_11 : decode cX10_letterIndex 11 = .ok (.iload_n 1, 1) := by decide +kernel
theorem dX10_letterIndex_12 : decode cX10_letterIndex 12 = .ok (.bipush 26, 2) := by decide +kernel
theorem dX10_letterIndex_14 : decode cX10_letterIndex 14 = .ok (.if_icmp .lt 7, 3) := by decide +kernel
theorem dX10_letterIndex_17 : decode cX10_letterIndex 17 = .ok (.iconst (-1), 1) := by decide +kernel
theorem dX10_letterIndex_18 : decode cX10_letterIndex 18 = .ok (.goto 4, 3) := by decide +kernel
theorem dX10_letterIndex_21 : decode cX10_letterIndex 21 = .ok (.iload_n 1, 1) := by decide +kernel
theorem dX10_letterIndex_22 : decode cX10_letterIndex 22 = .ok (.ireturn, 1) := by decide +kernel
theorem dX11_is_0 : decode cX11_is 0 = .ok (.iload_n 0, 1) := by decide +kernel
theorem dX11_is_1 : decode cX11_is 1 = .ok (.iload_n 1, 1) := by decide +kernel
theorem dX11_is_2 : decode cX11_is 2 = .ok (.if_icmp .lt 12, 3) := by decide +kernel
theorem dX11_is_5 : decode cX11_is 5 = .ok (.iload_n 0, 1) := by decide +kernel
theorem dX11_is_6 : decode cX11_is 6 = .ok (.iload_n 2, 1) := by decide +kernel
theorem dX11_is_7 : decode cX11_is 7 = .ok (.if_icmp .gt 7, 3) := by decide +kernel
theorem dX11_is_10 : decode cX11_is 10 = .ok (.iconst 1, 1) := by decide +kernel
theorem dX11_is_11 : decode cX11_is 11 = .ok (.goto 4, 3) := by decide +kernel
theorem dX11_is_14 : decode cX11_is 14 = .ok (.iconst 0, 1) := by decide +kernel
theorem dX11_is_15 : decode cX11_is 15 = .ok (.ireturn, 1) := by decide +kernel
theorem dX11_put_0 : decode cX11_put 0 = .ok (.bipush 24, 2) := by decide +kernel
theorem dX11_put_2 : decode cX11_put 2 = .ok (.istore_n 2, 1) := by decide +kernel
theorem dX11_put_3 : decode cX11_put 3 = .ok (.iload_n 2, 1) := by decide +kernel
theorem dX11_put_4 : decode cX11_put 4 = .ok (.ifCond .lt 35, 3) := by decide +kernel
theorem dX11_put_7 : decode cX11_put 7 = .ok (.aload_n 0, 1) := by decide +kernel
theorem dX11_put_8 : decode cX11_put 8 = .ok (.getfield 7, 3) := by decide +kernel
theorem dX11_put_11 : decode cX11_put 11 = .ok (.aload_n 0, 1) := by decide +kernel
theorem dX11_put_12 : decode cX11_put 12 = .ok (.getfield 13, 3) := by decide +kernel
theorem dX11_put_15 : decode cX11_put 15 = .ok (.iload_n 1, 1) := by decide +kernel
theorem dX11_put_16 : decode cX11_put 16 = .ok (.iload_n 2, 1) := by decide +kernel
theorem dX11_put_17 : decode cX11_put 17 = .ok (.ishr, 1) := by decide +kernel
theorem dX11_put_18 : decode cX11_put 18 = .ok (.sipush 255, 3) := by decide +kernel
theorem dX11_put_21 : decode cX11_put 21 = .ok (.iand, 1) := by decide +kernel
theorem dX11_put_22 : decode cX11_put 22 = .ok (.iastore, 1) := by decide +kernel
theorem dX11_put_23 : decode cX11_put 23 = .ok (.aload_n 0, 1) := by decide +kernel
theorem dX11_put_24 : decode cX11_put 24 = .ok (.dup, 1) := by decide +kernel
theorem dX11_put_25 : decode cX11_put 25 = .ok (.getfield 13, 3) := by decide +kernel
theorem dX11_put_28 : decode cX11_put 28 = .ok (.iconst 1, 1) := by decide +kernel
theorem dX11_put_29 : decode cX11_put 29 = .ok (.iadd, 1) := by decide +kernel
theorem dX11_put_30 : decode cX11_put 30 = .ok (.putfield 13, 3) := by decide +kernel
theorem dX11_put_33 : decode cX11_put 33 = .ok (.iinc 2 (-8), 3) := by decide +kernel
theorem dX11_put_36 : decode cX11_put 36 = .ok (.goto (-33), 3) := by decide +kernel
theorem dX11_put_39 : decode cX11_put 39 = .ok (.return_, 1) := by decide +kernel
theorem dX11_feed_0 : decode cX11_feed 0 = .ok (.aload_n 0, 1) := by decide +kernel
theorem dX11_feed_1 : decode cX11_feed 1 = .ok (.getfield 13, 3) := by decide +kernel
theorem dX11_feed_4 : decode cX11_feed 4 = .ok (.bipush 20, 2) := by decide +kernel
theorem dX11_feed_6 : decode cX11_feed 6 = .ok (.iadd, 1) := by decide +kernel
theorem dX11_feed_7 : decode cX11_feed 7 = .ok (.sipush 1600, 3) := by decide +kernel
theorem dX11_feed_10 : decode cX11_feed 10 = .ok (.if_icmp .le 9, 3) := by decide +kernel
theorem dX11_feed_13 : decode cX11_feed 13 = .ok (.aload_n 0, 1) := by decide +kernel
theorem dX11_feed_14 : decode cX11_feed 14 = .ok (.iconst 0, 1) := by decide +kernel
theorem dX11_feed_15 : decode cX11_feed 15 = .ok (.invokevirtual 234, 3) := by decide +kernel
theorem dX11_feed_18 : decode cX11_feed 18 = .ok (.ireturn, 1) := by decide +kernel
theorem dX11_feed_19 : decode cX11_feed 19 = .ok (.aload_n 0, 1) := by decide +kernel
theorem dX11_feed_20 : decode cX11_feed 20 = .ok (.iload_n 1, 1) := by decide +kernel
theorem dX11_feed_21 : decode cX11_feed 21 = .ok (.invokevirtual 238, 3) := by decide +kernel
theorem dX11_feed_24 : decode cX11_feed 24 = .ok (.aload_n 0, 1) := by decide +kernel
theorem dX11_feed_25 : decode cX11_feed 25 = .ok (.iload_n 2, 1) := by decide +kernel
theorem dX11_feed_26 : decode cX11_feed 26 = .ok (.invokevirtual 238, 3) := by decide +kernel
theorem dX11_feed_29 : decode cX11_feed 29 = .ok (.aload_n 0, 1) := by decide +kernel
theorem dX11_feed_30 : decode cX11_feed 30 = .ok (.iload_n 3, 1) := by decide +kernel
theorem dX11_feed_31 : decode cX11_feed 31 = .ok (.invokevirtual 238, 3) := by decide +kernel
theorem dX11_feed_34 : decode cX11_feed 34 = .ok (.aload_n 0, 1) := by decide +kernel
theorem dX11_feed_35 : decode cX11_feed 35 = .ok (.iload 4, 2) := by decide +kernel
theorem dX11_feed_37 : decode cX11_feed 37 = .ok (.invokevirtual 238, 3) := by decide +kernel
theorem dX11_feed_40 : decode cX11_feed 40 = .ok (.aload_n 0, 1) := by decide +kernel
theorem dX11_feed_41 : decode cX11_feed 41 = .ok (.iload 5, 2) := by decide +kernel
theorem dX11_feed_43 : decode cX11_feed 43 = .ok (.invokevirtual 238, 3) := by decide +kernel
theorem dX11_feed_46 : decode cX11_feed 46 = .ok (.aload_n 0, 1) := by decide +kernel
theorem dX11_feed_47 : decode cX11_feed 47 = .ok (.getfield 13, 3) := by decide +kernel
theorem dX11_feed_50 : decode cX11_feed 50 = .ok (.ireturn, 1) := by decide +kernel
theorem dX11_end_0 : decode cX11_end 0 = .ok (.iload_n 1, 1) := by decide +kernel
theorem dX11_end_1 : decode cX11_end 1 = .ok (.ifCond .lt 11, 3) := by decide +kernel
theorem dX11_end_4 : decode cX11_end 4 = .ok (.iload_n 1, 1) := by decide +kernel
theorem dX11_end_5 : decode cX11_end 5 = .ok (.aload_n 0, 1) := by decide +kernel
theorem dX11_end_6 : decode cX11_end 6 = .ok (.getfield 13, 3) := by decide +kernel
theorem dX11_end_9 : decode cX11_end 9 = .ok (.if_icmp .le 17, 3) := by decide +kernel
theorem dX11_end_12 : decode cX11_end 12 = .ok (.aload_n 0, 1) := by decide +kernel
theorem dX11_end_13 : decode cX11_end 13 = .ok (.iconst 0, 1) := by decide +kernel
theorem dX11_end_14 : decode cX11_end 14 = .ok (.invokevirtual 234, 3) := by decide +kernel
theorem dX11_end_17 : decode cX11_end 17 = .ok (.ifCond .lt 7, 3) := by decide +kernel
theorem dX11_end_20 : decode cX11_end 20 = .ok (.iconst 1, 1) := by decide +kernel
theorem dX11_end_21 : decode cX11_end 21 = .ok (.goto 4, 3) := by decide +kernel
theorem dX11_end_24 : decode cX11_end 24 = .ok (.iconst 0, 1) := by decide +kernel
theorem dX11_end_25 : decode cX11_end 25 = .ok (.ireturn, 1) := by decide +kernel
theorem dX11_end_26 : decode cX11_end 26 = .ok (.aload_n 0, 1) := by decide +kernel
theorem dX11_end_27 : decode cX11_end 27 = .ok (.iload_n 1, 1) := by decide +kernel
theorem dX11_end_28 : decode cX11_end 28 = .ok (.putfield 13, 3) := by decide +kernel
theorem dX11_end_31 : decode cX11_end 31 = .ok (.iconst 1, 1) := by decide +kernel
theorem dX11_end_32 : decode cX11_end 32 = .ok (.ireturn, 1) := by decide +kernel
theorem dX11_blame_0 : decode cX11_blame 0 = .ok (.aload_n 0, 1) := by decide +kernel
theorem dX11_blame_1 : decode cX11_blame 1 = .ok (.getfield 36, 3) := by decide +kernel
theorem dX11_blame_4 : decode cX11_blame 4 = .ok (.ifCond .le 4, 3) := by decide +kernel
theorem dX11_blame_7 : decode cX11_blame 7 = .ok (.return_, 1) := by decide +kernel
theorem dX11_blame_8 : decode cX11_blame 8 = .ok (.aload_n 0, 1) := by decide +kernel
theorem dX11_blame_9 : decode cX11_blame 9 = .ok (.iload_n 1, 1) := by decide +kernel
theorem dX11_blame_10 : decode cX11_blame 10 = .ok (.putfield 36, 3) := by decide +kernel
theorem dX11_blame_13 : decode cX11_blame 13 = .ok (.aload_n 0, 1) := by decide +kernel
theorem dX11_blame_14 : decode cX11_blame 14 = .ok (.iload_n 2, 1) := by decide +kernel
theorem dX11_blame_15 : decode cX11_blame 15 = .ok (.putfield 39, 3) := by decide +kernel
theorem dX11_blame_18 : decode cX11_blame 18 = .ok (.return_, 1) := by decide +kernel
theorem dX11_isLetter_0 : decode cX11_isLetter 0 = .ok (.iload_n 0, 1) := by decide +kernel
theorem dX11_isLetter_1 : decode cX11_isLetter 1 = .ok (.bipush 97, 2) := by decide +kernel
theorem dX11_isLetter_3 : decode cX11_isLetter 3 = .ok (.if_icmp .lt 13, 3) := by decide +kernel
theorem dX11_isLetter_6 : decode cX11_isLetter 6 = .ok (.iload_n 0, 1) := by decide +kernel
theorem dX11_isLetter_7 : decode cX11_isLetter 7 = .ok (.bipush 122, 2) := by decide +kernel
theorem dX11_isLetter_9 : decode cX11_isLetter 9 = .ok (.if_icmp .gt 7, 3) := by decide +kernel
theorem dX11_isLetter_12 : decode cX11_isLetter 12 = .ok (.iconst 1, 1) := by decide +kernel
theorem dX11_isLetter_13 : decode cX11_isLetter 13 = .ok (.goto 4, 3) := by decide +kernel
theorem dX11_isLetter_16 : decode cX11_isLetter 16 = .ok (.iconst 0, 1) := by decide +kernel
theorem dX11_isLetter_17 : decode cX11_isLetter 17 = .ok (.ireturn, 1) := by decide +kernel
theorem dX11_isDigit_0 : decode cX11_isDigit 0 = .ok (.iload_n 0, 1) := by decide +kernel
theorem dX11_isDigit_1 : decode cX11_isDigit 1 = .ok (.bipush 48, 2) := by decide +kernel
theorem dX11_isDigit_3 : decode cX11_isDigit 3 = .ok (.if_icmp .lt 13, 3) := by decide +kernel
theorem dX11_isDigit_6 : decode cX11_isDigit 6 = .ok (.iload_n 0, 1) := by decide +kernel
theorem dX11_isDigit_7 : decode cX11_isDigit 7 = .ok (.bipush 57, 2) := by decide +kernel
theorem dX11_isDigit_9 : decode cX11_isDigit 9 = .ok (.if_icmp .gt 7, 3) := by decide +kernel
theorem dX11_isDigit_12 : decode cX11_isDigit 12 = .ok (.iconst 1, 1) := by decide +kernel
theorem dX11_isDigit_13 : decode cX11_isDigit 13 = .ok (.goto 4, 3) := by decide +kernel
theorem dX11_isDigit_16 : decode cX11_isDigit 16 = .ok (.iconst 0, 1) := by decide +kernel
theorem dX11_isDigit_17 : decode cX11_isDigit 17 = .ok (.ireturn, 1) := by decide +kernel
theorem dX11_ahead_0 : decode cX11_ahead 0 = .ok (.aload_n 0, 1) := by decide +kernel
theorem dX11_ahead_1 : decode cX11_ahead 1 = .ok (.getfield 26, 3) := by decide +kernel
theorem dX11_ahead_4 : decode cX11_ahead 4 = .ok (.istore_n 1, 1) := by decide +kernel
theorem dX11_ahead_5 : decode cX11_ahead 5 = .ok (.iload_n 1, 1) := by decide +kernel
theorem dX11_ahead_6 : decode cX11_ahead 6 = .ok (.aload_n 0, 1) := by decide +kernel
theorem dX11_ahead_7 : decode cX11_ahead 7 = .ok (.getfield 17, 3) := by decide +kernel
theorem dX11_ahead_10 : decode cX11_ahead 10 = .ok (.if_icmp .ge 31, 3) := by decide +kernel
theorem dX11_ahead_13 : decode cX11_ahead 13 = .ok (.aload_n 0, 1) := by decide +kernel
theorem dX11_ahead_14 : decode cX11_ahead 14 = .ok (.getfield 7, 3) := by decide +kernel
theorem dX11_ahead_17 : decode cX11_ahead 17 = .ok (.iload_n 1, 1) := by decide +kernel
theorem dX11_ahead_18 : decode cX11_ahead 18 = .ok (.iaload, 1) := by decide +kernel
theorem dX11_ahead_19 : decode cX11_ahead 19 = .ok (.bipush 32, 2) := by decide +kernel
theorem dX11_ahead_21 : decode cX11_ahead 21 = .ok (.if_icmp .eq 14, 3) := by decide +kernel
theorem dX11_ahead_24 : decode cX11_ahead 24 = .ok (.aload_n 0, 1) := by decide +kernel
theorem dX11_ahead_25 : decode cX11_ahead 25 = .ok (.getfield 7, 3) := by decide +kernel
theorem dX11_ahead_28 : decode cX11_ahead 28 = .ok (.iload_n 1, 1) := by decide +kernel
theorem dX11_ahead_29 : decode cX11_ahead 29 = .ok (.iaload, 1) := by decide +kernel
theorem dX11_ahead_30 : decode cX11_ahead 30 = .ok (.bipush 10, 2) := by decide +kernel
theorem dX11_ahead_32 : decode cX11_ahead 32 = .ok (.if_icmp .ne 9, 3) := by decide +kernel
theorem dX11_ahead_35 : decode cX11_ahead 35 = .ok (.iinc 1 1, 3) := by decide +kernel
theorem dX11_ahead_38 : decode cX11_ahead 38 = .ok (.goto (-33), 3) := by decide +kernel
theorem dX11_ahead_41 : decode cX11_ahead 41 = .ok (.aload_n 0, 1) := by decide +kernel
theorem dX11_ahead_42 : decode cX11_ahead 42 = .ok (.iload_n 1, 1) := by decide +kernel
theorem dX11_ahead_43 : decode cX11_ahead 43 = .ok (.putfield 23, 3) := by decide +kernel
theorem dX11_ahead_46 : decode cX11_ahead 46 = .ok (.aload_n 0, 1) := by decide +kernel
theorem dX11_ahead_47 : decode cX11_ahead 47 = .ok (.iload_n 1, 1) := by decide +kernel
theorem dX11_ahead_48 : decode cX11_ahead 48 = .ok (.putfield 26, 3) := by decide +kernel
theorem dX11_ahead_51 : decode cX11_ahead 51 = .ok (.aload_n 0, 1) := by decide +kernel
theorem dX11_ahead_52 : decode cX11_ahead 52 = .ok (.iconst 0, 1) := by decide +kernel
theorem dX11_ahead_53 : decode cX11_ahead 53 = .ok (.putfield 20, 3) := by decide +kernel
theorem dX11_ahead_56 : decode cX11_ahead 56 = .ok (.iload_n 1, 1) := by decide +kernel
theorem dX11_ahead_57 : decode cX11_ahead 57 = .ok (.aload_n 0, 1) := by decide +kernel
theorem dX11_ahead_58 : decode cX11_ahead 58 = .ok (.getfield 17, 3) := by decide +kernel
theorem dX11_ahead_61 : decode cX11_ahead 61 = .ok (.if_icmp .lt 4, 3) := by decide +kernel
theorem dX11_ahead_64 : decode cX11_ahead 64 = .ok (.return_, 1) := by decide +kernel
theorem dX11_ahead_65 : decode cX11_ahead 65 = .ok (.aload_n 0, 1) := by decide +kernel
theorem dX11_ahead_66 : decode cX11_ahead 66 = .ok (.getfield 7, 3) := by decide +kernel
theorem dX11_ahead_69 : decode cX11_ahead 69 = .ok (.iload_n 1, 1) := by decide +kernel
theorem dX11_ahead_70 : decode cX11_ahead 70 = .ok (.iaload, 1) := by decide +kernel
theorem dX11_ahead_71 : decode cX11_ahead 71 = .ok (.invokestatic 242, 3) := by decide +kernel
theorem dX11_ahead_74 : decode cX11_ahead 74 = .ok (.istore_n 2, 1) := by decide +kernel
theorem dX11_ahead_75 : decode cX11_ahead 75 = .ok (.aload_n 0, 1) := by decide +kernel
theorem dX11_ahead_76 : decode cX11_ahead 76 = .ok (.getfield 7, 3) := by decide +kernel
theorem dX11_ahead_79 : decode cX11_ahead 79 = .ok (.iload_n 1, 1) := by decide +kernel
theorem dX11_ahead_80 : decode cX11_ahead 80 = .ok (.iaload, 1) := by decide +kernel
theorem dX11_ahead_81 : decode cX11_ahead 81 = .ok (.invokestatic 246, 3) := by decide +kernel
theorem dX11_ahead_84 : decode cX11_ahead 84 = .ok (.istore_n 3, 1) := by decide +kernel
theorem dX11_ahead_85 : decode cX11_ahead 85 = .ok (.iload_n 2, 1) := by decide +kernel
theorem dX11_ahead_86 : decode cX11_ahead 86 = .ok (.ifCond .ne 7, 3) := by decide +kernel
theorem dX11_ahead_89 : decode cX11_ahead 89 = .ok (.iload_n 3, 1) := by decide +kernel
theorem dX11_ahead_90 : decode cX11_ahead 90 = .ok (.ifCond .eq 41, 3) := by decide +kernel
theorem dX11_ahead_93 : decode cX11_ahead 93 = .ok (.iload_n 1, 1) := by decide +kernel
theorem dX11_ahead_94 : decode cX11_ahead 94 = .ok (.ifCond .le 37, 3) := by decide +kernel
theorem dX11_ahead_97 : decode cX11_ahead 97 = .ok (.aload_n 0, 1) := by decide +kernel
theorem dX11_ahead_98 : decode cX11_ahead 98 = .ok (.getfield 7, 3) := by decide +kernel
theorem dX11_ahead_101 : decode cX11_ahead 101 = .ok (.iload_n 1, 1) := by decide +kernel
theorem dX11_ahead_102 : decode cX11_ahead 102 = .ok (.iconst 1, 1) := by decide +kernel
theorem dX11_ahead_103 : decode cX11_ahead 103 = .ok (.isub, 1) := by decide +kernel
theorem dX11_ahead_104 : decode cX11_ahead 104 = .ok (.iaload, 1) := by decide +kernel
theorem dX11_ahead_105 : decode cX11_ahead 105 = .ok (.invokestatic 242, 3) := by decide +kernel
theorem dX11_ahead_108 : decode cX11_ahead 108 = .ok (.ifCond .ne 17, 3) := by decide +kernel
theorem dX11_ahead_111 : decode cX11_ahead 111 = .ok (.aload_n 0, 1) := by decide +kernel
theorem dX11_ahead_112 : decode cX11_ahead 112 = .ok (.getfield 7, 3) := by decide +kernel
theorem dX11_ahead_115 : decode cX11_ahead 115 = .ok (.iload_n 1, 1) := by decide +kernel
theorem dX11_ahead_116 : decode cX11_ahead 116 = .ok (.iconst 1, 1) := by decide +kernel
theorem dX11_ahead_117 : decode cX11_ahead 117 = .ok (.isub, 1) := by decide +kernel
theorem dX11_ahead_118 : decode cX11_ahead 118 = .ok (.iaload, 1) := by decide +kernel
theorem dX11_ahead_119 : decode cX11_ahead 119 = .ok (.invokestatic 246, 3) := by decide +kernel
theorem dX11_ahead_122 : decode cX11_ahead 122 = .ok (.ifCond .eq 9, 3) := by decide +kernel
theorem dX11_ahead_125 : decode cX11_ahead 125 = .ok (.aload_n 0, 1) := by decide +kernel
theorem dX11_ahead_126 : decode cX11_ahead 126 = .ok (.iconst 1, 1) := by decide +kernel
theorem dX11_ahead_127 : decode cX11_ahead 127 = .ok (.iload_n 1, 1) := by decide +kernel
theorem dX11_ahead_128 : decode cX11_ahead 128 = .ok (.invokevirtual 249, 3) := by decide +kernel
theorem dX11_ahead_131 : decode cX11_ahead 131 = .ok (.aload_n 0, 1) := by decide +kernel
theorem dX11_ahead_132 : decode cX11_ahead 132 = .ok (.iconst 0, 1) := by decide +kernel
theorem dX11_ahead_133 : decode cX11_ahead 133 = .ok (.putfield 29, 3) := by decide +kernel
theorem dX11_ahead_136 : decode cX11_ahead 136 = .ok (.aload_n 0, 1) := by decide +kernel
theorem dX11_ahead_137 : decode cX11_ahead 137 = .ok (.lconst 0, 1) := by decide +kernel
theorem dX11_ahead_138 : decode cX11_ahead 138 = .ok (.putfield 32, 3) := by decide +kernel
theorem dX11_ahead_141 : decode cX11_ahead 141 = .ok (.aload_n 0, 1) := by decide +kernel
theorem dX11_ahead_142 : decode cX11_ahead 142 = .ok (.iconst 3, 1) := by decide +kernel
theorem dX11_ahead_143 : decode cX11_ahead 143 = .ok (.putfield 20, 3) := by decide +kernel
theorem dX11_ahead_146 : decode cX11_ahead 146 = .ok (.aload_n 0, 1) := by decide +kernel
theorem dX11_ahead_147 : decode cX11_ahead 147 = .ok (.iload_n 1, 1) := by decide +kernel
theorem dX11_ahead_148 : decode cX11_ahead 148 = .ok (.iconst 1, 1) := by decide +kernel
theorem dX11_ahead_149 : decode cX11_ahead 149 = .ok (.iadd, 1) := by decide +kernel
theorem dX11_ahead_150 : decode cX11_ahead 150 = .ok (.putfield 26, 3) := by decide +kernel
theorem dX11_ahead_153 : decode cX11_ahead 153 = .ok (.iload_n 2, 1) := by decide +kernel
theorem dX11_ahead_154 : decode cX11_ahead 154 = .ok (.ifCond .ne 18, 3) := by decide +kernel
theorem dX11_ahead_157 : decode cX11_ahead 157 = .ok (.iload_n 3, 1) := by decide +kernel
theorem dX11_ahead_158 : decode cX11_ahead 158 = .ok (.ifCond .ne 14, 3) := by decide +kernel
theorem dX11_ahead_161 : decode cX11_ahead 161 = .ok (.aload_n 0, 1) := by decide +kernel
theorem dX11_ahead_162 : decode cX11_ahead 162 = .ok (.aload_n 0, 1) := by decide +kernel
theorem dX11_ahead_163 : decode cX11_ahead 163 = .ok (.getfield 7, 3) := by decide +kernel
theorem dX11_ahead_166 : decode cX11_ahead 166 = .ok (.iload_n 1, 1) := by decide +kernel
theorem dX11_ahead_167 : decode cX11_ahead 167 = .ok (.iaload, 1) := by decide +kernel
theorem dX11_ahead_168 : decode cX11_ahead 168 = .ok (.putfield 29, 3) := by decide +kernel
theorem dX11_ahead_171 : decode cX11_ahead 171 = .ok (.return_, 1) := by decide +kernel
theorem dX11_ahead_172 : decode cX11_ahead 172 = .ok (.aload_n 0, 1) := by decide +kernel
theorem dX11_ahead_173 : decode cX11_ahead 173 = .ok (.iload_n 2, 1) := by decide +kernel
theorem dX11_ahead_174 : decode cX11_ahead 174 = .ok (.ifCond .eq 7, 3) := by decide +kernel
theorem dX11_ahead_177 : decode cX11_ahead 177 = .ok (.iconst 1, 1) := by decide +kernel
theorem dX11_ahead_178 : decode cX11_ahead 178 = .ok (.goto 4, 3) := by decide +kernel
theorem dX11_ahead_181 : decode cX11_ahead 181 = .ok (.iconst 2, 1) := by decide +kernel
theorem dX11_ahead_182 : decode cX11_ahead 182 = .ok (.putfield 20, 3) := by decide +kernel
theorem dX11_ahead_185 : decode cX11_ahead 185 = .ok (.iload_n 2, 1) := by decide +kernel
theorem dX11_ahead_186 : decode cX11_ahead 186 = .ok (.ifCond .eq 8, 3) := by decide +kernel
theorem dX11_ahead_189 : decode cX11_ahead 189 = .ok (.bipush 6, 2) := by decide +kernel
theorem dX11_ahead_191 : decode cX11_ahead 191 = .ok (.goto 4, 3) := by decide +kernel
theorem dX11_ahead_194 : decode cX11_ahead 194 = .ok (.iconst 4, 1) := by decide +kernel
theorem dX11_ahead_195 : decode cX11_ahead 195 = .ok (.istore 4, 2) := by decide +kernel
theorem dX11_ahead_197 : decode cX11_ahead 197 = .ok (.iconst 0, 1) := by decide +kernel
theorem dX11_ahead_198 : decode cX11_ahead 198 = .ok (.istore 5, 2) := by decide +kernel
theorem dX11_ahead_200 : decode cX11_ahead 200 = .ok (.iload_n 1, 1) := by decide +kernel
theorem dX11_ahead_201 : decode cX11_ahead 201 = .ok (.aload_n 0, 1) := by decide +kernel
theorem dX11_ahead_202 : decode cX11_ahead 202 = .ok (.getfield 17, 3) := by decide +kernel
theorem dX11_ahead_205 : decode cX11_ahead 205 = .ok (.if_icmp .ge 118, 3) := by decide +kernel
theorem dX11_ahead_208 : decode cX11_ahead 208 = .ok (.iload_n 2, 1) := by decide +kernel
theorem dX11_ahead_209 : decode cX11_ahead 209 = .ok (.ifCond .eq 18, 3) := by decide +kernel
theorem dX11_ahead_212 : decode cX11_ahead 212 = .ok (.aload_n 0, 1) := by decide +kernel
theorem dX11_ahead_213 : decode cX11_ahead 213 = .ok (.getfield 7, 3) := by decide +kernel
theorem dX11_ahead_216 : decode cX11_ahead 216 = .ok (.iload_n 1, 1) := by decide +kernel
theorem dX11_ahead_217 : decode cX11_ahead 217 = .ok (.iaload, 1) := by decide +kernel
theorem dX11_ahead_218 : decode cX11_ahead 218 = .ok (.invokestatic 242, 3) := by decide +kernel
theorem dX11_ahead_221 : decode cX11_ahead 221 = .ok (.ifCond .eq 102, 3) := by decide +kernel
theorem dX11_ahead_224 : decode cX11_ahead 224 = .ok (.goto 15, 3) := by decide +kernel
theorem dX11_ahead_227 : decode cX11_ahead 227 = .ok (.aload_n 0, 1) := by decide +kernel
theorem dX11_ahead_228 : decode cX11_ahead 228 = .ok (.getfield 7, 3) := by decide +kernel
theorem dX11_ahead_231 : decode cX11_ahead 231 = .ok (.iload_n 1, 1) := by decide +kernel
theorem dX11_ahead_232 : decode cX11_ahead 232 = .ok (.iaload, 1) := by decide +kernel
theorem dX11_ahead_233 : decode cX11_ahead 233 = .ok (.invokestatic 246, 3) := by decide +kernel
theorem dX11_ahead_236 : decode cX11_ahead 236 = .ok (.ifCond .eq 87, 3) := by decide +kernel
theorem dX11_ahead_239 : decode cX11_ahead 239 = .ok (.iload 5, 2) := by decide +kernel
theorem dX11_ahead_241 : decode cX11_ahead 241 = .ok (.iload 4, 2) := by decide +kernel
theorem dX11_ahead_243 : decode cX11_ahead 243 = .ok (.if_icmp .ne 9, 3) := by decide +kernel
theorem dX11_ahead_246 : decode cX11_ahead 246 = .ok (.aload_n 0, 1) := by decide +kernel
theorem dX11_ahead_247 : decode cX11_ahead 247 = .ok (.iconst 1, 1) := by decide +kernel
theorem dX11_ahead_248 : decode cX11_ahead 248 = .ok (.iload_n 1, 1) := by decide +kernel
theorem dX11_ahead_249 : decode cX11_ahead 249 = .ok (.invokevirtual 249, 3) := by decide +kernel
theorem dX11_ahead_252 : decode cX11_ahead 252 = .ok (.iload 5, 2) := by decide +kernel
theorem dX11_ahead_254 : decode cX11_ahead 254 = .ok (.iload 4, 2) := by decide +kernel
theorem dX11_ahead_256 : decode cX11_ahead 256 = .ok (.if_icmp .ge 26, 3) := by decide +kernel
theorem dX11_ahead_259 : decode cX11_ahead 259 = .ok (.iload_n 2, 1) := by decide +kernel
theorem dX11_ahead_260 : decode cX11_ahead 260 = .ok (.ifCond .eq 22, 3) := by decide +kernel
theorem dX11_ahead_263 : decode cX11_ahead 263 = .ok (.aload_n 0, 1) := by decide +kernel
theorem dX11_ahead_264 : decode cX11_ahead 264 = .ok (.aload_n 0, 1) := by decide +kernel
theorem dX11_ahead_265 : decode cX11_ahead 265 = .ok (.getfield 32, 3) := by decide +kernel
theorem dX11_ahead_268 : decode cX11_ahead 268 = .ok (.bipush 8, 2) := by decide +kernel
theorem dX11_ahead_270 : decode cX11_ahead 270 = .ok (.lshl, 1) := by decide +kernel
theorem dX11_ahead_271 : decode cX11_ahead 271 = .ok (.aload_n 0, 1) := by decide +kernel
theorem dX11_ahead_272 : decode cX11_ahead 272 = .ok (.getfield 7, 3) := by decide +kernel
theorem dX11_ahead_275 : decode cX11_ahead 275 = .ok (.iload_n 1, 1) := by decide +kernel
theorem dX11_ahead_276 : decode cX11_ahead 276 = .ok (.iaload, 1) := by decide +kernel
theorem dX11_ahead_277 : decode cX11_ahead 277 = .ok (.i2l, 1) := by decide +kernel
theorem dX11_ahead_278 : decode cX11_ahead 278 = .ok (.lor, 1) := by decide +kernel
theorem dX11_ahead_279 : decode cX11_ahead 279 = .ok (.putfield 32, 3) := by decide +kernel
theorem dX11_ahead_282 : decode cX11_ahead 282 = .ok (.iload 5, 2) := by decide +kernel
theorem dX11_ahead_284 : decode cX11_ahead 284 = .ok (.iload 4, 2) := by decide +kernel
theorem dX11_ahead_286 : decode cX11_ahead 286 = .ok (.if_icmp .ge 28, 3) := by decide +kernel
theorem dX11_ahead_289 : decode cX11_ahead 289 = .ok (.iload_n 3, 1) := by decide +kernel
theorem dX11_ahead_290 : decode cX11_ahead 290 = .ok (.ifCond .eq 24, 3) := by decide +kernel
theorem dX11_ahead_293 : decode cX11_ahead 293 = .ok (.aload_n 0, 1) := by decide +kernel
theorem dX11_ahead_294 : decode cX11_ahead 294 = .ok (.bipush 10, 2) := by decide +kernel
theorem dX11_ahead_296 : decode cX11_ahead 296 = .ok (.aload_n 0, 1) := by decide +kernel
theorem dX11_ahead_297 : decode cX11_ahead 297 = .ok (.getfield 29, 3) := by decide +kernel
theorem dX11_ahead_300 : decode cX11_ahead 300 = .ok (.imul, 1) := by decide +kernel
theorem dX11_ahead_301 : decode cX11_ahead 301 = .ok (.aload_n 0, 1) := by decide +kernel
theorem dX11_ahead_302 : decode cX11_ahead 302 = .ok (.getfield 7, 3) := by decide +kernel
theorem dX11_ahead_305 : decode cX11_ahead 305 = .ok (.iload_n 1, 1) := by decide +kernel
theorem dX11_ahead_306 : decode cX11_ahead 306 = .ok (.iaload, 1) := by decide +kernel
theorem dX11_ahead_307 : decode cX11_ahead 307 = .ok (.iadd, 1) := by decide +kernel
theorem dX11_ahead_308 : decode cX11_ahead 308 = .ok (.bipush 48, 2) := by decide +kernel
theorem dX11_ahead_310 : decode cX11_ahead 310 = .ok (.isub, 1) := by decide +kernel
theorem dX11_ahead_311 : decode cX11_ahead 311 = .ok (.putfield 29, 3) := by decide +kernel
theorem dX11_ahead_314 : decode cX11_ahead 314 = .ok (.iinc 5 1, 3) := by decide +kernel
theorem dX11_ahead_317 : decode cX11_ahead 317 = .ok (.iinc 1 1, 3) := by decide +kernel
theorem dX11_ahead_320 : decode cX11_ahead 320 = .ok (.goto (-120), 3) := by decide +kernel
theorem dX11_ahead_323 : decode cX11_ahead 323 = .ok (.aload_n 0, 1) := by decide +kernel
theorem dX11_ahead_324 : decode cX11_ahead 324 = .ok (.iload_n 1, 1) := by decide +kernel
theorem dX11_ahead_325 : decode cX11_ahead 325 = .ok (.putfield 26, 3) := by decide +kernel
theorem dX11_ahead_328 : decode cX11_ahead 328 = .ok (.return_, 1) := by decide +kernel
theorem dX11_isSign_0 : decode cX11_isSign 0 = .ok (.aload_n 0, 1) := by decide +kernel
theorem dX11_isSign_1 : decode cX11_isSign 1 = .ok (.getfield 20, 3) := by decide +kernel
theorem dX11_isSign_4 : decode cX11_isSign 4 = .ok (.iconst 3, 1) := by decide +kernel
theorem dX11_isSign_5 : decode cX11_isSign 5 = .ok (.if_icmp .ne 15, 3) := by decide +kernel
theorem dX11_isSign_8 : decode cX11_isSign 8 = .ok (.aload_n 0, 1) := by decide +kernel
theorem dX11_isSign_9 : decode cX11_isSign 9 = .ok (.getfield 29, 3) := by decide +kernel
theorem dX11_isSign_12 : decode cX11_isSign 12 = .ok (.iload_n 1, 1) := by decide +kernel
theorem dX11_isSign_13 : decode cX11_isSign 13 = .ok (.if_icmp .ne 7, 3) := by decide +kernel
theorem dX11_isSign_16 : decode cX11_isSign 16 = .ok (.iconst 1, 1) := by decide +kernel
theorem dX11_isSign_17 : decode cX11_isSign 17 = .ok (.goto 4, 3) := by decide +kernel
theorem dX11_isSign_20 : decode cX11_isSign 20 = .ok (.iconst 0, 1) := by decide +kernel
theorem dX11_isSign_21 : decode cX11_isSign 21 = .ok (.ireturn, 1) := by decide +kernel
theorem dX11_isWord_0 : decode cX11_isWord 0 = .ok (.aload_n 0, 1) := by decide +kernel
theorem dX11_isWord_1 : decode cX11_isWord 1 = .ok (.getfield 20, 3) := by decide +kernel
theorem dX11_isWord_4 : decode cX11_isWord 4 = .ok (.iconst 1, 1) := by decide +kernel
theorem dX11_isWord_5 : decode cX11_isWord 5 = .ok (.if_icmp .ne 16, 3) := by decide +kernel
theorem dX11_isWord_8 : decode cX11_isWord 8 = .ok (.aload_n 0, 1) := by decide +kernel
theorem dX11_isWord_9 : decode cX11_isWord 9 = .ok (.getfield 32, 3) := by decide +kernel
theorem dX11_isWord_12 : decode cX11_isWord 12 = .ok (.lload_n 1, 1) := by decide +kernel
theorem dX11_isWord_13 : decode cX11_isWord 13 = .ok (.lcmp, 1) := by decide +kernel
theorem dX11_isWord_14 : decode cX11_isWord 14 = .ok (.ifCond .ne 7, 3) := by decide +kernel
theorem dX11_isWord_17 : decode cX11_isWord 17 = .ok (.iconst 1, 1) := by decide +kernel
theorem dX11_isWord_18 : decode cX11_isWord 18 = .ok (.goto 4, 3) := by decide +kernel
theorem dX11_isWord_21 : decode cX11_isWord 21 = .ok (.iconst 0, 1) := by decide +kernel
theorem dX11_isWord_22 : decode cX11_isWord 22 = .ok (.ireturn, 1) := by decide +kernel
theorem dX11_must_0 : decode cX11_must 0 = .ok (.aload_n 0, 1) := by decide +kernel
theorem dX11_must_1 : decode cX11_must 1 = .ok (.iload_n 1, 1) := by decide +kernel
theorem dX11_must_2 : decode cX11_must 2 = .ok (.invokevirtual 253, 3) := by decide +kernel
theorem dX11_must_5 : decode cX11_must 5 = .ok (.ifCond .ne 12, 3) := by decide +kernel
theorem dX11_must_8 : decode cX11_must 8 = .ok (.aload_n 0, 1) := by decide +kernel
theorem dX11_must_9 : decode cX11_must 9 = .ok (.iconst 1, 1) := by decide +kernel
theorem dX11_must_10 : decode cX11_must 10 = .ok (.aload_n 0, 1) := by decide +kernel
theorem dX11_must_11 : decode cX11_must 11 = .ok (.getfield 23, 3) := by decide +kernel
theorem dX11_must_14 : decode cX11_must 14 = .ok (.invokevirtual 249, 3) := by decide +kernel
theorem dX11_must_17 : decode cX11_must 17 = .ok (.aload_n 0, 1) := by decide +kernel
theorem dX11_must_18 : decode cX11_must 18 = .ok (.getfield 36, 3) := by decide +kernel
theorem dX11_must_21 : decode cX11_must 21 = .ok (.ifCond .ne 7, 3) := by decide +kernel
theorem dX11_must_24 : decode cX11_must 24 = .ok (.aload_n 0, 1) := by decide +kernel
theorem dX11_must_25 : decode cX11_must 25 = .ok (.invokevirtual 256, 3) := by decide +kernel
theorem dX11_must_28 : decode cX11_must 28 = .ok (.return_, 1) := by decide +kernel
theorem dX11_isOwn_0 : decode cX11_isOwn 0 = .ok (.lload_n 1, 1) := by decide +kernel
theorem dX11_isOwn_1 : decode cX11_isOwn 1 = .ok (.ldc2_w 259, 3) := by decide +kernel
theorem dX11_isOwn_4 : decode cX11_isOwn 4 = .ok (.lcmp, 1) := by decide +kernel
theorem dX11_isOwn_5 : decode cX11_isOwn 5 = .ok (.ifCond .eq 35, 3) := by decide +kernel
theorem dX11_isOwn_8 : decode cX11_isOwn 8 = .ok (.lload_n 1, 1) := by decide +kernel
theorem dX11_isOwn_9 : decode cX11_isOwn 9 = .ok (.ldc2_w 261, 3) := by decide +kernel
theorem dX11_isOwn_12 : decode cX11_isOwn 12 = .ok (.lcmp, 1) := by decide +kernel
theorem dX11_isOwn_13 : decode cX11_isOwn 13 = .ok (.ifCond .eq 27, 3) := by decide +kernel
theorem dX11_isOwn_16 : decode cX11_isOwn 16 = .ok (.lload_n 1, 1) := by decide +kernel
theorem dX11_isOwn_17 : decode cX11_isOwn 17 = .ok (.ldc2_w 263, 3) := by decide +kernel
theorem dX11_isOwn_20 : decode cX11_isOwn 20 = .ok (.lcmp, 1) := by decide +kernel
theorem dX11_isOwn_21 : decode cX11_isOwn 21 = .ok (.ifCond .eq 19, 3) := by decide +kernel
theorem dX11_isOwn_24 : decode cX11_isOwn 24 = .ok (.lload_n 1, 1) := by decide +kernel
theorem dX11_isOwn_25 : decode cX11_isOwn 25 = .ok (.ldc2_w 265, 3) := by decide +kernel
theorem dX11_isOwn_28 : decode cX11_isOwn 28 = .ok (.lcmp, 1) := by decide +kernel
theorem dX11_isOwn_29 : decode cX11_isOwn 29 = .ok (.ifCond .eq 11, 3) := by decide +kernel
theorem dX11_isOwn_32 : decode cX11_isOwn 32 = .ok (.lload_n 1, 1) := by decide +kernel
theorem dX11_isOwn_33 : decode cX11_isOwn 33 = .ok (.ldc2_w 267, 3) := by decide +kernel
theorem dX11_isOwn_36 : decode cX11_isOwn 36 = .ok (.lcmp, 1) := by decide +kernel
theorem dX11_isOwn_37 : decode cX11_isOwn 37 = .ok (.ifCond .ne 5, 3) := by decide +kernel
theorem dX11_isOwn_40 : decode cX11_isOwn 40 = .ok (.iconst 1, 1) := by decide +kernel
theorem dX11_isOwn_41 : decode cX11_isOwn 41 = .ok (.ireturn, 1) := by decide +kernel
theorem dX11_isOwn_42 : decode cX11_isOwn 42 = .ok (.lload_n 1, 1) := by decide +kernel
theorem dX11_isOwn_43 : decode cX11_isOwn 43 = .ok (.ldc2_w 269, 3) := by decide +kernel
theorem dX11_isOwn_46 : decode cX11_isOwn 46 = .ok (.lcmp, 1) := by decide +kernel
theorem dX11_isOwn_47 : decode cX11_isOwn 47 = .ok (.ifCond .eq 35, 3) := by decide +kernel
theorem dX11_isOwn_50 : decode cX11_isOwn 50 = .ok (.lload_n 1, 1) := by decide +kernel
theorem dX11_isOwn_51 : decode cX11_isOwn 51 = .ok (.ldc2_w 271, 3) := by decide +kernel
theorem dX11_isOwn_54 : decode cX11_isOwn 54 = .ok (.lcmp, 1) := by decide +kernel
theorem dX11_isOwn_55 : decode cX11_isOwn 55 = .ok (.ifCond .eq 27, 3) := by decide +kernel
theorem dX11_isOwn_58 : decode cX11_isOwn 58 = .ok (.lload_n 1, 1) := by decide +kernel
theorem dX11_isOwn_59 : decode cX11_isOwn 59 = .ok (.ldc2_w 273, 3) := by decide +kernel
theorem dX11_isOwn_62 : decode cX11_isOwn 62 = .ok (.lcmp, 1) := by decide +kernel
theorem dX11_isOwn_63 : decode cX11_isOwn 63 = .ok (.ifCond .eq 19, 3) := by decide +kernel
theorem dX11_isOwn_66 : decode cX11_isOwn 66 = .ok (.lload_n 1, 1) := by decide +kernel
theorem dX11_isOwn_67 : decode cX11_isOwn 67 = .ok (.ldc2_w 275, 3) := by decide +kernel
theorem dX11_isOwn_70 : decode cX11_isOwn 70 = .ok (.lcmp, 1) := by decide +kernel
theorem dX11_isOwn_71 : decode cX11_isOwn 71 = .ok (.ifCond .eq 11, 3) := by decide +kernel
theorem dX11_isOwn_74 : decode cX11_isOwn 74 = .ok (.lload_n 1, 1) := by decide +kernel
theorem dX11_isOwn_75 : decode cX11_isOwn 75 = .ok (.ldc2_w 277, 3) := by decide +kernel
theorem dX11_isOwn_78 : decode cX11_isOwn 78 = .ok (.lcmp, 1) := by decide +kernel
theorem dX11_isOwn_79 : decode cX11_isOwn 79 = .ok (.ifCond .ne 5, 3) := by decide +kernel
theorem dX11_isOwn_82 : decode cX11_isOwn 82 = .ok (.iconst 1, 1) := by decide +kernel
theorem dX11_isOwn_83 : decode cX11_isOwn 83 = .ok (.ireturn, 1) := by decide +kernel
theorem dX11_isOwn_84 : decode cX11_isOwn 84 = .ok (.lload_n 1, 1) := by decide +kernel
theorem dX11_isOwn_85 : decode cX11_isOwn 85 = .ok (.ldc2_w 279, 3) := by decide +kernel
theorem dX11_isOwn_88 : decode cX11_isOwn 88 = .ok (.lcmp, 1) := by decide +kernel
theorem dX11_isOwn_89 : decode cX11_isOwn 89 = .ok (.ifCond .eq 35, 3) := by decide +kernel
theorem dX11_isOwn_92 : decode cX11_isOwn 92 = .ok (.lload_n 1, 1) := by decide +kernel
theorem dX11_isOwn_93 : decode cX11_isOwn 93 = .ok (.ldc2_w 281, 3) := by decide +kernel
theorem dX11_isOwn_96 : decode cX11_isOwn 96 = .ok (.lcmp, 1) := by decide +kernel
theorem dX11_isOwn_97 : decode cX11_isOwn 97 = .ok (.ifCond .eq 27, 3) := by decide +kernel
theorem dX11_isOwn_100 : decode cX11_isOwn 100 = .ok (.lload_n 1, 1) := by decide +kernel
theorem dX11_isOwn_101 : decode cX11_isOwn 101 = .ok (.ldc2_w 283, 3) := by decide +kernel
theorem dX11_isOwn_104 : decode cX11_isOwn 104 = .ok (.lcmp, 1) := by decide +kernel
theorem dX11_isOwn_105 : decode cX11_isOwn 105 = .ok (.ifCond .eq 19, 3) := by decide +kernel
theorem dX11_isOwn_108 : decode cX11_isOwn 108 = .ok (.lload_n 1, 1) := by decide +kernel
theorem dX11_isOwn_109 : decode cX11_isOwn 109 = .ok (.ldc2_w 285, 3) := by decide +kernel
theorem dX11_isOwn_112 : decode cX11_isOwn 112 = .ok (.lcmp, 1) := by decide +kernel
theorem dX11_isOwn_113 : decode cX11_isOwn 113 = .ok (.ifCond .eq 11, 3) := by decide +kernel
theorem dX11_isOwn_116 : decode cX11_isOwn 116 = .ok (.lload_n 1, 1) := by decide +kernel
theorem dX11_isOwn_117 : decode cX11_isOwn 117 = .ok (.ldc2_w 287, 3) := by decide +kernel
theorem dX11_isOwn_120 : decode cX11_isOwn 120 = .ok (.lcmp, 1) := by decide +kernel
theorem dX11_isOwn_121 : decode cX11_isOwn 121 = .ok (.ifCond .ne 5, 3) := by decide +kernel
theorem dX11_isOwn_124 : decode cX11_isOwn 124 = .ok (.iconst 1, 1) := by decide +kernel
theorem dX11_isOwn_125 : decode cX11_isOwn 125 = .ok (.ireturn, 1) := by decide +kernel
theorem dX11_isOwn_126 : decode cX11_isOwn 126 = .ok (.lload_n 1, 1) := by decide +kernel
theorem dX11_isOwn_127 : decode cX11_isOwn 127 = .ok (.ldc2_w 289, 3) := by decide +kernel
theorem dX11_isOwn_130 : decode cX11_isOwn 130 = .ok (.lcmp, 1) := by decide +kernel
theorem dX11_isOwn_131 : decode cX11_isOwn 131 = .ok (.ifCond .eq 35, 3) := by decide +kernel
theorem dX11_isOwn_134 : decode cX11_isOwn 134 = .ok (.lload_n 1, 1) := by decide +kernel
theorem dX11_isOwn_135 : decode cX11_isOwn 135 = .ok (.ldc2_w 291, 3) := by decide +kernel
theorem dX11_isOwn_138 : decode cX11_isOwn 138 = .ok (.lcmp, 1) := by decide +kernel
theorem dX11_isOwn_139 : decode cX11_isOwn 139 = .ok (.ifCond .eq 27, 3) := by decide +kernel
theorem dX11_isOwn_142 : decode cX11_isOwn 142 = .ok (.lload_n 1, 1) := by decide +kernel
theorem dX11_isOwn_143 : decode cX11_isOwn 143 = .ok (.ldc2_w 293, 3) := by decide +kernel
theorem dX11_isOwn_146 : decode cX11_isOwn 146 = .ok (.lcmp, 1) := by decide +kernel
theorem dX11_isOwn_147 : decode cX11_isOwn 147 = .ok (.ifCond .eq 19, 3) := by decide +kernel
theorem dX11_isOwn_150 : decode cX11_isOwn 150 = .ok (.lload_n 1, 1) := by decide +kernel
theorem dX11_isOwn_151 : decode cX11_isOwn 151 = .ok (.ldc2_w 295, 3) := by decide +kernel
theorem dX11_isOwn_154 : decode cX11_isOwn 154 = .ok (.lcmp, 1) := by decide +kernel
theorem dX11_isOwn_155 : decode cX11_isOwn 155 = .ok (.ifCond .eq 11, 3) := by decide +kernel
theorem dX11_isOwn_158 : decode cX11_isOwn 158 = .ok (.lload_n 1, 1) := by decide +kernel
theorem dX11_isOwn_159 : decode cX11_isOwn 159 = .ok (.ldc2_w 297, 3) := by decide +kernel
theorem dX11_isOwn_162 : decode cX11_isOwn 162 = .ok (.lcmp, 1) := by decide +kernel
theorem dX11_isOwn_163 : decode cX11_isOwn 163 = .ok (.ifCond .ne 5, 3) := by decide +kernel
theorem dX11_isOwn_166 : decode cX11_isOwn 166 = .ok (.iconst 1, 1) := by decide +kernel
theorem dX11_isOwn_167 : decode cX11_isOwn 167 = .ok (.ireturn, 1) := by decide +kernel
theorem dX11_isOwn_168 : decode cX11_isOwn 168 = .ok (.lload_n 1, 1) := by decide +kernel
theorem dX11_isOwn_169 : decode cX11_isOwn 169 = .ok (.ldc2_w 299, 3) := by decide +kernel
theorem dX11_isOwn_172 : decode cX11_isOwn 172 = .ok (.lcmp, 1) := by decide +kernel
theorem dX11_isOwn_173 : decode cX11_isOwn 173 = .ok (.ifCond .eq 19, 3) := by decide +kernel
theorem dX11_isOwn_176 : decode cX11_isOwn 176 = .ok (.lload_n 1, 1) := by decide +kernel
theorem dX11_isOwn_177 : decode cX11_isOwn 177 = .ok (.ldc2_w 301, 3) := by decide +kernel
theorem dX11_isOwn_180 : decode cX11_isOwn 180 = .ok (.lcmp, 1) := by decide +kernel
theorem dX11_isOwn_181 : decode cX11_isOwn 181 = .ok (.ifCond .eq 11, 3) := by decide +kernel
theorem dX11_isOwn_184 : decode cX11_isOwn 184 = .ok (.lload_n 1, 1) := by decide +kernel
theorem dX11_isOwn_185 : decode cX11_isOwn 185 = .ok (.ldc2_w 303, 3) := by decide +kernel
theorem dX11_isOwn_188 : decode cX11_isOwn 188 = .ok (.lcmp, 1) := by decide +kernel
theorem dX11_isOwn_189 : decode cX11_isOwn 189 = .ok (.ifCond .ne 5, 3) := by decide +kernel
theorem dX11_isOwn_192 : decode cX11_isOwn 192 = .ok (.iconst 1, 1) := by decide +kernel
theorem dX11_isOwn_193 : decode cX11_isOwn 193 = .ok (.ireturn, 1) := by decide +kernel
theorem dX11_isOwn_194 : decode cX11_isOwn 194 = .ok (.iconst 0, 1) := by decide +kernel
theorem dX11_isOwn_195 : decode cX11_isOwn 195 = .ok (.ireturn, 1) := by decide +kernel
theorem dX11_nameOf_0 : decode cX11_nameOf 0 = .ok (.iload_n 2, 1) := by decide +kernel
theorem dX11_nameOf_1 : decode cX11_nameOf 1 = .ok (.ifCond .ne 17, 3) := by decide +kernel
theorem dX11_nameOf_4 : decode cX11_nameOf 4 = .ok (.aload_n 0, 1) := by decide +kernel
theorem dX11_nameOf_5 : decode cX11_nameOf 5 = .ok (.getfield 57, 3) := by decide +kernel
theorem dX11_nameOf_8 : decode cX11_nameOf 8 = .ok (.bipush 8, 2) := by decide +kernel
theorem dX11_nameOf_10 : decode cX11_nameOf 10 = .ok (.iload_n 1, 1) := by decide +kernel
theorem dX11_nameOf_11 : decode cX11_nameOf 11 = .ok (.imul, 1) := by decide +kernel
theorem dX11_nameOf_12 : decode cX11_nameOf 12 = .ok (.iload_n 3, 1) := by decide +kernel
theorem dX11_nameOf_13 : decode cX11_nameOf 13 = .ok (.iadd, 1) := by decide +kernel
theorem dX11_nameOf_14 : decode cX11_nameOf 14 = .ok (.laload, 1) := by decide +kernel
theorem dX11_nameOf_15 : decode cX11_nameOf 15 = .ok (.goto 32, 3) := by decide +kernel
theorem dX11_nameOf_18 : decode cX11_nameOf 18 = .ok (.iload_n 2, 1) := by decide +kernel
theorem dX11_nameOf_19 : decode cX11_nameOf 19 = .ok (.iconst 1, 1) := by decide +kernel
theorem dX11_nameOf_20 : decode cX11_nameOf 20 = .ok (.if_icmp .ne 17, 3) := by decide +kernel
theorem dX11_nameOf_23 : decode cX11_nameOf 23 = .ok (.aload_n 0, 1) := by decide +kernel
theorem dX11_nameOf_24 : decode cX11_nameOf 24 = .ok (.getfield 76, 3) := by decide +kernel
theorem dX11_nameOf_27 : decode cX11_nameOf 27 = .ok (.bipush 12, 2) := by decide +kernel
theorem dX11_nameOf_29 : decode cX11_nameOf 29 = .ok (.iload_n 1, 1) := by decide +kernel
theorem dX11_nameOf_30 : decode cX11_nameOf 30 = .ok (.imul, 1) := by decide +kernel
theorem dX11_nameOf_31 : decode cX11_nameOf 31 = .ok (.iload_n 3, 1) := by decide +kernel
theorem dX11_nameOf_32 : decode cX11_nameOf 32 = .ok (.iadd, 1) := by decide +kernel
theorem dX11_nameOf_33 : decode cX11_nameOf 33 = .ok (.laload, 1) := by decide +kernel
theorem dX11_nameOf_34 : decode cX11_nameOf 34 = .ok (.goto 13, 3) := by decide +kernel
theorem dX11_nameOf_37 : decode cX11_nameOf 37 = .ok (.aload_n 0, 1) := by decide +kernel
theorem dX11_nameOf_38 : decode cX11_nameOf 38 = .ok (.getfield 109, 3) := by decide +kernel
theorem dX11_nameOf_41 : decode cX11_nameOf 41 = .ok (.iconst 4, 1) := by decide +kernel
theorem dX11_nameOf_42 : decode cX11_nameOf 42 = .ok (.iload_n 1, 1) := by decide +kernel
theorem dX11_nameOf_43 : decode cX11_nameOf 43 = .ok (.imul, 1) := by decide +kernel
theorem dX11_nameOf_44 : decode cX11_nameOf 44 = .ok (.iload_n 3, 1) := by decide +kernel
theorem dX11_nameOf_45 : decode cX11_nameOf 45 = .ok (.iadd, 1) := by decide +kernel
theorem dX11_nameOf_46 : decode cX11_nameOf 46 = .ok (.laload, 1) := by decide +kernel
theorem dX11_nameOf_47 : decode cX11_nameOf 47 = .ok (.lreturn, 1) := by decide +kernel
theorem dX11_named_0 : decode cX11_named 0 = .ok (.iload_n 1, 1) := by decide +kernel
theorem dX11_named_1 : decode cX11_named 1 = .ok (.ifCond .ne 15, 3) := by decide +kernel
theorem dX11_named_4 : decode cX11_named 4 = .ok (.aload_n 0, 1) := by decide +kernel
theorem dX11_named_5 : decode cX11_named 5 = .ok (.getfield 54, 3) := by decide +kernel
theorem dX11_named_8 : decode cX11_named 8 = .ok (.aload_n 0, 1) := by decide +kernel
theorem dX11_named_9 : decode cX11_named 9 = .ok (.getfield 127, 3) := by decide +kernel
theorem dX11_named_12 : decode cX11_named 12 = .ok (.iaload, 1) := by decide +kernel
theorem dX11_named_13 : decode cX11_named 13 = .ok (.goto 29, 3) := by decide +kernel
theorem dX11_named_16 : decode cX11_named 16 = .ok (.iload_n 1, 1) := by decide +kernel
theorem dX11_named_17 : decode cX11_named 17 = .ok (.iconst 1, 1) := by decide +kernel
theorem dX11_named_18 : decode cX11_named 18 = .ok (.if_icmp .ne 15, 3) := by decide +kernel
theorem dX11_named_21 : decode cX11_named 21 = .ok (.aload_n 0, 1) := by decide +kernel
theorem dX11_named_22 : decode cX11_named 22 = .ok (.getfield 73, 3) := by decide +kernel
theorem dX11_named_25 : decode cX11_named 25 = .ok (.aload_n 0, 1) := by decide +kernel
theorem dX11_named_26 : decode cX11_named 26 = .ok (.getfield 127, 3) := by decide +kernel
theorem dX11_named_29 : decode cX11_named 29 = .ok (.iaload, 1) := by decide +kernel
theorem dX11_named_30 : decode cX11_named 30 = .ok (.goto 12, 3) := by decide +kernel
theorem dX11_named_33 : decode cX11_named 33 = .ok (.aload_n 0, 1) := by decide +kernel
theorem dX11_named_34 : decode cX11_named 34 = .ok (.getfield 106, 3) := by decide +kernel
theorem dX11_named_37 : decode cX11_named 37 = .ok (.aload_n 0, 1) := by decide +kernel
theorem dX11_named_38 : decode cX11_named 38 = .ok (.getfield 127, 3) := by decide +kernel
theorem dX11_named_41 : decode cX11_named 41 = .ok (.iaload, 1) := by decide +kernel
theorem dX11_named_42 : decode cX11_named 42 = .ok (.istore 4, 2) := by decide +kernel
theorem dX11_named_44 : decode cX11_named 44 = .ok (.iconst 0, 1) := by decide +kernel
theorem dX11_named_45 : decode cX11_named 45 = .ok (.istore 5, 2) := by decide +kernel
theorem dX11_named_47 : decode cX11_named 47 = .ok (.iload 5, 2) := by decide +kernel
theorem dX11_named_49 : decode cX11_named 49 = .ok (.iload 4, 2) := by decide +kernel
theorem dX11_named_51 : decode cX11_named 51 = .ok (.if_icmp .ge 28, 3) := by decide +kernel
theorem dX11_named_54 : decode cX11_named 54 = .ok (.aload_n 0, 1) := by decide +kernel
theorem dX11_named_55 : decode cX11_named 55 = .ok (.aload_n 0, 1) := by decide +kernel
theorem dX11_named_56 : decode cX11_named 56 = .ok (.getfield 127, 3) := by decide +kernel
theorem dX11_named_59 : decode cX11_named 59 = .ok (.iload_n 1, 1) := by decide +kernel
theorem dX11_named_60 : decode cX11_named 60 = .ok (.iload 5, 2) := by decide +kernel
theorem dX11_named_62 : decode cX11_named 62 = .ok (.invokevirtual 305, 3) := by decide +kernel
theorem dX11_named_65 : decode cX11_named 65 = .ok (.lload_n 2, 1) := by decide +kernel
theorem dX11_named_66 : decode cX11_named 66 = .ok (.lcmp, 1) := by decide +kernel
theorem dX11_named_67 : decode cX11_named 67 = .ok (.ifCond .ne 6, 3) := by decide +kernel
theorem dX11_named_70 : decode cX11_named 70 = .ok (.iload 5, 2) := by decide +kernel
theorem dX11_named_72 : decode cX11_named 72 = .ok (.ireturn, 1) := by decide +kernel
theorem dX11_named_73 : decode cX11_named 73 = .ok (.iinc 5 1, 3) := by decide +kernel
theorem dX11_named_76 : decode cX11_named 76 = .ok (.goto (-29), 3) := by decide +kernel
theorem dX11_named_79 : decode cX11_named 79 = .ok (.iconst (-1), 1) := by decide +kernel
theorem dX11_named_80 : decode cX11_named 80 = .ok (.ireturn, 1) := by decide +kernel
theorem dX11_number_0 : decode cX11_number 0 = .ok (.aload_n 0, 1) := by decide +kernel
theorem dX11_number_1 : decode cX11_number 1 = .ok (.getfield 36, 3) := by decide +kernel
theorem dX11_number_4 : decode cX11_number 4 = .ok (.ifCond .le 5, 3) := by decide +kernel
theorem dX11_number_7 : decode cX11_number 7 = .ok (.iconst 0, 1) := by decide +kernel
theorem dX11_number_8 : decode cX11_number 8 = .ok (.ireturn, 1) := by decide +kernel
theorem dX11_number_9 : decode cX11_number 9 = .ok (.aload_n 0, 1) := by decide +kernel
theorem dX11_number_10 : decode cX11_number 10 = .ok (.getfield 20, 3) := by decide +kernel
theorem dX11_number_13 : decode cX11_number 13 = .ok (.iconst 2, 1) := by decide +kernel
theorem dX11_number_14 : decode cX11_number 14 = .ok (.if_icmp .eq 12, 3) := by decide +kernel
theorem dX11_number_17 : decode cX11_number 17 = .ok (.aload_n 0, 1) := by decide +kernel
theorem dX11_number_18 : decode cX11_number 18 = .ok (.iconst 1, 1) := by decide +kernel
theorem dX11_number_19 : decode cX11_number 19 = .ok (.aload_n 0, 1) := by decide +kernel
theorem dX11_number_20 : decode cX11_number 20 = .ok (.getfield 23, 3) := by decide +kernel
theorem dX11_number_23 : decode cX11_number 23 = .ok (.invokevirtual 249, 3) := by decide +kernel
theorem dX11_number_26 : decode cX11_number 26 = .ok (.aload_n 0, 1) := by decide +kernel
theorem dX11_number_27 : decode cX11_number 27 = .ok (.getfield 36, 3) := by decide +kernel
theorem dX11_number_30 : decode cX11_number 30 = .ok (.ifCond .ne 24, 3) := by decide +kernel
theorem dX11_number_33 : decode cX11_number 33 = .ok (.aload_n 0, 1) := by decide +kernel
theorem dX11_number_34 : decode cX11_number 34 = .ok (.getfield 29, 3) := by decide +kernel
theorem dX11_number_37 : decode cX11_number 37 = .ok (.iload_n 1, 1) := by decide +kernel
theorem dX11_number_38 : decode cX11_number 38 = .ok (.iload_n 2, 1) := by decide +kernel
theorem dX11_number_39 : decode cX11_number 39 = .ok (.invokestatic 309, 3) := by decide +kernel
theorem dX11_number_42 : decode cX11_number 42 = .ok (.ifCond .ne 12, 3) := by decide +kernel
theorem dX11_number_45 : decode cX11_number 45 = .ok (.aload_n 0, 1) := by decide +kernel
theorem dX11_number_46 : decode cX11_number 46 = .ok (.iconst 4, 1) := by decide +kernel
theorem dX11_number_47 : decode cX11_number 47 = .ok (.aload_n 0, 1) := by decide +kernel
theorem dX11_number_48 : decode cX11_number 48 = .ok (.getfield 23, 3) := by decide +kernel
theorem dX11_number_51 : decode cX11_number 51 = .ok (.invokevirtual 249, 3) := by decide +kernel
theorem dX11_number_54 : decode cX11_number 54 = .ok (.aload_n 0, 1) := by decide +kernel
theorem dX11_number_55 : decode cX11_number 55 = .ok (.getfield 29, 3) := by decide +kernel
theorem dX11_number_58 : decode cX11_number 58 = .ok (.istore_n 3, 1) := by decide +kernel
theorem dX11_number_59 : decode cX11_number 59 = .ok (.aload_n 0, 1) := by decide +kernel
theorem dX11_number_60 : decode cX11_number 60 = .ok (.getfield 36, 3) := by decide +kernel
theorem dX11_number_63 : decode cX11_number 63 = .ok (.ifCond .ne 7, 3) := by decide +kernel
theorem dX11_number_66 : decode cX11_number 66 = .ok (.aload_n 0, 1) := by decide +kernel
theorem dX11_number_67 : decode cX11_number 67 = .ok (.invokevirtual 256, 3) := by decide +kernel
theorem dX11_number_70 : decode cX11_number 70 = .ok (.iload_n 3, 1) := by decide +kernel
theorem dX11_number_71 : decode cX11_number 71 = .ok (.ireturn, 1) := by decide +kernel
theorem dX11_add_0 : decode cX11_add 0 = .ok (.aload_n 0, 1) := by decide +kernel
theorem dX11_add_1 : decode cX11_add 1 = .ok (.getfield 118, 3) := by decide +kernel
theorem dX11_add_4 : decode cX11_add 4 = .ok (.sipush 1600, 3) := by decide +kernel
theorem dX11_add_7 : decode cX11_add 7 = .ok (.aload_n 0, 1) := by decide +kernel
theorem dX11_add_8 : decode cX11_add 8 = .ok (.getfield 127, 3) := by decide +kernel
theorem dX11_add_11 : decode cX11_add 11 = .ok (.imul, 1) := by decide +kernel
theorem dX11_add_12 : decode cX11_add 12 = .ok (.aload_n 0, 1) := by decide +kernel
theorem dX11_add_13 : decode cX11_add 13 = .ok (.getfield 124, 3) := by decide +kernel
theorem dX11_add_16 : decode cX11_add 16 = .ok (.iadd, 1) := by decide +kernel
theorem dX11_add_17 : decode cX11_add 17 = .ok (.iload_n 1, 1) := by decide +kernel
theorem dX11_add_18 : decode cX11_add 18 = .ok (.iastore, 1) := by decide +kernel
theorem dX11_add_19 : decode cX11_add 19 = .ok (.aload_n 0, 1) := by decide +kernel
theorem dX11_add_20 : decode cX11_add 20 = .ok (.getfield 121, 3) := by decide +kernel
theorem dX11_add_23 : decode cX11_add 23 = .ok (.sipush 1600, 3) := by decide +kernel
theorem dX11_add_26 : decode cX11_add 26 = .ok (.aload_n 0, 1) := by decide +kernel
theorem dX11_add_27 : decode cX11_add 27 = .ok (.getfield 127, 3) := by decide +kernel
theorem dX11_add_30 : decode cX11_add 30 = .ok (.imul, 1) := by decide +kernel
theorem dX11_add_31 : decode cX11_add 31 = .ok (.aload_n 0, 1) := by decide +kernel
theorem dX11_add_32 : decode cX11_add 32 = .ok (.getfield 124, 3) := by decide +kernel
theorem dX11_add_35 : decode cX11_add 35 = .ok (.iadd, 1) := by decide +kernel
theorem dX11_add_36 : decode cX11_add 36 = .ok (.iload_n 2, 1) := by decide +kernel
theorem dX11_add_37 : decode cX11_add 37 = .ok (.iastore, 1) := by decide +kernel
theorem dX11_add_38 : decode cX11_add 38 = .ok (.aload_n 0, 1) := by decide +kernel
theorem dX11_add_39 : decode cX11_add 39 = .ok (.dup, 1) := by decide +kernel
theorem dX11_add_40 : decode cX11_add 40 = .ok (.getfield 124, 3) := by decide +kernel
theorem dX11_add_43 : decode cX11_add 43 = .ok (.iconst 1, 1) := by decide +kernel
theorem dX11_add_44 : decode cX11_add 44 = .ok (.iadd, 1) := by decide +kernel
theorem dX11_add_45 : decode cX11_add 45 = .ok (.putfield 124, 3) := by decide +kernel
theorem dX11_add_48 : decode cX11_add 48 = .ok (.return_, 1) := by decide +kernel
theorem dX11_rank_0 : decode cX11_rank 0 = .ok (.iload_n 0, 1) := by decide +kernel
theorem dX11_rank_1 : decode cX11_rank 1 = .ok (.bipush 21, 2) := by decide +kernel
theorem dX11_rank_3 : decode cX11_rank 3 = .ok (.if_icmp .ne 7, 3) := by decide +kernel
theorem dX11_rank_6 : decode cX11_rank 6 = .ok (.iconst 1, 1) := by decide +kernel
theorem dX11_rank_7 : decode cX11_rank 7 = .ok (.goto 63, 3) := by decide +kernel
theorem dX11_rank_10 : decode cX11_rank 10 = .ok (.iload_n 0, 1) := by decide +kernel
theorem dX11_rank_11 : decode cX11_rank 11 = .ok (.bipush 20, 2) := by decide +kernel
theorem dX11_rank_13 : decode cX11_rank 13 = .ok (.if_icmp .ne 7, 3) := by decide +kernel
theorem dX11_rank_16 : decode cX11_rank 16 = .ok (.iconst 2, 1) := by decide +kernel
theorem dX11_rank_17 : decode cX11_rank 17 = .ok (.goto 53, 3) := by decide +kernel
theorem dX11_rank_20 : decode cX11_rank 20 = .ok (.iload_n 0, 1) := by decide +kernel
theorem dX11_rank_21 : decode cX11_rank 21 = .ok (.bipush 22, 2) := by decide +kernel
theorem dX11_rank_23 : decode cX11_rank 23 = .ok (.if_icmp .ne 7, 3) := by decide +kernel
theorem dX11_rank_26 : decode cX11_rank 26 = .ok (.iconst 3, 1) := by decide +kernel
theorem dX11_rank_27 : decode cX11_rank 27 = .ok (.goto 43, 3) := by decide +kernel
theorem dX11_rank_30 : decode cX11_rank 30 = .ok (.iload_n 0, 1) := by decide +kernel
theorem dX11_rank_31 : decode cX11_rank 31 = .ok (.bipush 17, 2) := by decide +kernel
theorem dX11_rank_33 : decode cX11_rank 33 = .ok (.if_icmp .eq 15, 3) := by decide +kernel
theorem dX11_rank_36 : decode cX11_rank 36 = .ok (.iload_n 0, 1) := by decide +kernel
theorem dX11_rank_37 : decode cX11_rank 37 = .ok (.bipush 18, 2) := by decide +kernel
theorem dX11_rank_39 : decode cX11_rank 39 = .ok (.if_icmp .eq 9, 3) := by decide +kernel
theorem dX11_rank_42 : decode cX11_rank 42 = .ok (.iload_n 0, 1) := by decide +kernel
theorem dX11_rank_43 : decode cX11_rank 43 = .ok (.bipush 19, 2) := by decide +kernel
theorem dX11_rank_45 : decode cX11_rank 45 = .ok (.if_icmp .ne 7, 3) := by decide +kernel
theorem dX11_rank_48 : decode cX11_rank 48 = .ok (.iconst 4, 1) := by decide +kernel
theorem dX11_rank_49 : decode cX11_rank 49 = .ok (.goto 21, 3) := by decide +kernel
theorem dX11_rank_52 : decode cX11_rank 52 = .ok (.iload_n 0, 1) := by decide +kernel
theorem dX11_rank_53 : decode cX11_rank 53 = .ok (.bipush 10, 2) := by decide +kernel
theorem dX11_rank_55 : decode cX11_rank 55 = .ok (.if_icmp .eq 9, 3) := by decide +kernel
theorem dX11_rank_58 : decode cX11_rank 58 = .ok (.iload_n 0, 1) := by decide +kernel
theorem dX11_rank_59 : decode cX11_rank 59 = .ok (.bipush 11, 2) := by decide +kernel
theorem dX11_rank_61 : decode cX11_rank 61 = .ok (.if_icmp .ne 7, 3) := by decide +kernel
theorem dX11_rank_64 : decode cX11_rank 64 = .ok (.iconst 5, 1) := by decide +kernel
theorem dX11_rank_65 : decode cX11_rank 65 = .ok (.goto 5, 3) := by decide +kernel
theorem dX11_rank_68 : decode cX11_rank 68 = .ok (.bipush 6, 2) := by decide +kernel
theorem dX11_rank_70 : decode cX11_rank 70 = .ok (.ireturn, 1) := by decide +kernel
theorem dX11_joins_0 : decode cX11_joins 0 = .ok (.aload_n 0, 1) := by decide +kernel
theorem dX11_joins_1 : decode cX11_joins 1 = .ok (.getfield 155, 3) := by decide +kernel
theorem dX11_joins_4 : decode cX11_joins 4 = .ok (.aload_n 0, 1) := by decide +kernel
theorem dX11_joins_5 : decode cX11_joins 5 = .ok (.getfield 143, 3) := by decide +kernel
theorem dX11_joins_8 : decode cX11_joins 8 = .ok (.aload_n 0, 1) := by decide +kernel
theorem dX11_joins_9 : decode cX11_joins 9 = .ok (.getfield 146, 3) := by decide +kernel
theorem dX11_joins_12 : decode cX11_joins 12 = .ok (.iconst 1, 1) := by decide +kernel
theorem dX11_joins_13 : decode cX11_joins 13 = .ok (.isub, 1) := by decide +kernel
theorem dX11_joins_14 : decode cX11_joins 14 = .ok (.iaload, 1) := by decide +kernel
theorem dX11_joins_15 : decode cX11_joins 15 = .ok (.if_icmp .le 48, 3) := by decide +kernel
theorem dX11_joins_18 : decode cX11_joins 18 = .ok (.aload_n 0, 1) := by decide +kernel
theorem dX11_joins_19 : decode cX11_joins 19 = .ok (.getfield 152, 3) := by decide +kernel
theorem dX11_joins_22 : decode cX11_joins 22 = .ok (.aload_n 0, 1) := by decide +kernel
theorem dX11_joins_23 : decode cX11_joins 23 = .ok (.getfield 155, 3) := by decide +kernel
theorem dX11_joins_26 : decode cX11_joins 26 = .ok (.iconst 1, 1) := by decide +kernel
theorem dX11_joins_27 : decode cX11_joins 27 = .ok (.isub, 1) := by decide +kernel
theorem dX11_joins_28 : decode cX11_joins 28 = .ok (.iaload, 1) := by decide +kernel
theorem dX11_joins_29 : decode cX11_joins 29 = .ok (.invokestatic 313, 3) := by decide +kernel
theorem dX11_joins_32 : decode cX11_joins 32 = .ok (.iload_n 1, 1) := by decide +kernel
theorem dX11_joins_33 : decode cX11_joins 33 = .ok (.if_icmp .lt 30, 3) := by decide +kernel
theorem dX11_joins_36 : decode cX11_joins 36 = .ok (.aload_n 0, 1) := by decide +kernel
theorem dX11_joins_37 : decode cX11_joins 37 = .ok (.dup, 1) := by decide +kernel
theorem dX11_joins_38 : decode cX11_joins 38 = .ok (.getfield 155, 3) := by decide +kernel
theorem dX11_joins_41 : decode cX11_joins 41 = .ok (.iconst 1, 1) := by decide +kernel
theorem dX11_joins_42 : decode cX11_joins 42 = .ok (.isub, 1) := by decide +kernel
theorem dX11_joins_43 : decode cX11_joins 43 = .ok (.putfield 155, 3) := by decide +kernel
theorem dX11_joins_46 : decode cX11_joins 46 = .ok (.aload_n 0, 1) := by decide +kernel
theorem dX11_joins_47 : decode cX11_joins 47 = .ok (.aload_n 0, 1) := by decide +kernel
theorem dX11_joins_48 : decode cX11_joins 48 = .ok (.getfield 152, 3) := by decide +kernel
theorem dX11_joins_51 : decode cX11_joins 51 = .ok (.aload_n 0, 1) := by decide +kernel
theorem dX11_joins_52 : decode cX11_joins 52 = .ok (.getfield 155, 3) := by decide +kernel
theorem dX11_joins_55 : decode cX11_joins 55 = .ok (.iaload, 1) := by decide +kernel
theorem dX11_joins_56 : decode cX11_joins 56 = .ok (.iconst 0, 1) := by decide +kernel
theorem dX11_joins_57 : decode cX11_joins 57 = .ok (.invokevirtual 316, 3) := by decide +kernel
theorem dX11_joins_60 : decode cX11_joins 60 = .ok (.goto (-60), 3) := by decide +kernel
theorem dX11_joins_63 : decode cX11_joins 63 = .ok (.return_, 1) := by decide +kernel
theorem dX11_holdsBack_0 : decode cX11_holdsBack 0 = .ok (.aload_n 0, 1) := by decide +kernel
theorem dX11_holdsBack_1 : decode cX11_holdsBack 1 = .ok (.getfield 152, 3) := by decide +kernel
theorem dX11_holdsBack_4 : decode cX11_holdsBack 4 = .ok (.aload_n 0, 1) := by decide +kernel
theorem dX11_holdsBack_5 : decode cX11_holdsBack 5 = .ok (.getfield 155, 3) := by decide +kernel
theorem dX11_holdsBack_8 : decode cX11_holdsBack 8 = .ok (.iload_n 1, 1) := by decide +kernel
theorem dX11_holdsBack_9 : decode cX11_holdsBack 9 = .ok (.iastore, 1) := by decide +kernel
theorem dX11_holdsBack_10 : decode cX11_holdsBack 10 = .ok (.aload_n 0, 1) := by decide +kernel
theorem dX11_holdsBack_11 : decode cX11_holdsBack 11 = .ok (.dup, 1) := by decide +kernel
theorem dX11_holdsBack_12 : decode cX11_holdsBack 12 = .ok (.getfield 155, 3) := by decide +kernel
theorem dX11_holdsBack_15 : decode cX11_holdsBack 15 = .ok (.iconst 1, 1) := by decide +kernel
theorem dX11_holdsBack_16 : decode cX11_holdsBack 16 = .ok (.iadd, 1) := by decide +kernel
theorem dX11_holdsBack_17 : decode cX11_holdsBack 17 = .ok (.putfield 155, 3) := by decide +kernel
theorem dX11_holdsBack_20 : decode cX11_holdsBack 20 = .ok (.return_, 1) := by decide +kernel
theorem dX11_pushes_0 : decode cX11_pushes 0 = .ok (.aload_n 0, 1) := by decide +kernel
theorem dX11_pushes_1 : decode cX11_pushes 1 = .ok (.getfield 130, 3) := by decide +kernel
theorem dX11_pushes_4 : decode cX11_pushes 4 = .ok (.aload_n 0, 1) := by decide +kernel
theorem dX11_pushes_5 : decode cX11_pushes 5 = .ok (.getfield 146, 3) := by decide +kernel
theorem dX11_pushes_8 : decode cX11_pushes 8 = .ok (.iload_n 1, 1) := by decide +kernel
theorem dX11_pushes_9 : decode cX11_pushes 9 = .ok (.iastore, 1) := by decide +kernel
theorem dX11_pushes_10 : decode cX11_pushes 10 = .ok (.aload_n 0, 1) := by decide +kernel
theorem dX11_pushes_11 : decode cX11_pushes 11 = .ok (.getfield 133, 3) := by decide +kernel
theorem dX11_pushes_14 : decode cX11_pushes 14 = .ok (.aload_n 0, 1) := by decide +kernel
theorem dX11_pushes_15 : decode cX11_pushes 15 = .ok (.getfield 146, 3) := by decide +kernel
theorem dX11_pushes_18 : decode cX11_pushes 18 = .ok (.iconst 0, 1) := by decide +kernel
theorem dX11_pushes_19 : decode cX11_pushes 19 = .ok (.iastore, 1) := by decide +kernel
theorem dX11_pushes_20 : decode cX11_pushes 20 = .ok (.aload_n 0, 1) := by decide +kernel
theorem dX11_pushes_21 : decode cX11_pushes 21 = .ok (.getfield 136, 3) := by decide +kernel
theorem dX11_pushes_24 : decode cX11_pushes 24 = .ok (.aload_n 0, 1) := by decide +kernel
theorem dX11_pushes_25 : decode cX11_pushes 25 = .ok (.getfield 146, 3) := by decide +kernel
theorem dX11_pushes_28 : decode cX11_pushes 28 = .ok (.iconst 1, 1) := by decide +kernel
theorem dX11_pushes_29 : decode cX11_pushes 29 = .ok (.bastore, 1) := by decide +kernel
theorem dX11_pushes_30 : decode cX11_pushes 30 = .ok (.aload_n 0, 1) := by decide +kernel
theorem dX11_pushes_31 : decode cX11_pushes 31 = .ok (.getfield 143, 3) := by decide +kernel
theorem dX11_pushes_34 : decode cX11_pushes 34 = .ok (.aload_n 0, 1) := by decide +kernel
theorem dX11_pushes_35 : decode cX11_pushes 35 = .ok (.getfield 146, 3) := by decide +kernel
theorem dX11_pushes_38 : decode cX11_pushes 38 = .ok (.aload_n 0, 1) := by decide +kernel
theorem dX11_pushes_39 : decode cX11_pushes 39 = .ok (.getfield 155, 3) := by decide +kernel
theorem dX11_pushes_42 : decode cX11_pushes 42 = .ok (.iastore, 1) := by decide +kernel
theorem dX11_pushes_43 : decode cX11_pushes 43 = .ok (.aload_n 0, 1) := by decide +kernel
theorem dX11_pushes_44 : decode cX11_pushes 44 = .ok (.dup, 1) := by decide +kernel
theorem dX11_pushes_45 : decode cX11_pushes 45 = .ok (.getfield 146, 3) := by decide +kernel
theorem dX11_pushes_48 : decode cX11_pushes 48 = .ok (.iconst 1, 1) := by decide +kernel
theorem dX11_pushes_49 : decode cX11_pushes 49 = .ok (.iadd, 1) := by decide +kernel
theorem dX11_pushes_50 : decode cX11_pushes 50 = .ok (.putfield 146, 3) := by decide +kernel
theorem dX11_pushes_53 : decode cX11_pushes 53 = .ok (.return_, 1) := by decide +kernel
theorem dX11_opens_0 : decode cX11_opens 0 = .ok (.aload_n 0, 1) := by decide +kernel
theorem dX11_opens_1 : decode cX11_opens 1 = .ok (.getfield 149, 3) := by decide +kernel
theorem dX11_opens_4 : decode cX11_opens 4 = .ok (.bipush 8, 2) := by decide +kernel
theorem dX11_opens_6 : decode cX11_opens 6 = .ok (.if_icmp .ne 12, 3) := by decide +kernel
theorem dX11_opens_9 : decode cX11_opens 9 = .ok (.aload_n 0, 1) := by decide +kernel
theorem dX11_opens_10 : decode cX11_opens 10 = .ok (.iconst 5, 1) := by decide +kernel
theorem dX11_opens_11 : decode cX11_opens 11 = .ok (.aload_n 0, 1) := by decide +kernel
theorem dX11_opens_12 : decode cX11_opens 12 = .ok (.getfield 23, 3) := by decide +kernel
theorem dX11_opens_15 : decode cX11_opens 15 = .ok (.invokevirtual 249, 3) := by decide +kernel
theorem dX11_opens_18 : decode cX11_opens 18 = .ok (.aload_n 0, 1) := by decide +kernel
theorem dX11_opens_19 : decode cX11_opens 19 = .ok (.getfield 36, 3) := by decide +kernel
theorem dX11_opens_22 : decode cX11_opens 22 = .ok (.ifCond .le 4, 3) := by decide +kernel
theorem dX11_opens_25 : decode cX11_opens 25 = .ok (.return_, 1) := by decide +kernel
theorem dX11_opens_26 : decode cX11_opens 26 = .ok (.aload_n 0, 1) := by decide +kernel
theorem dX11_opens_27 : decode cX11_opens 27 = .ok (.dup, 1) := by decide +kernel
theorem dX11_opens_28 : decode cX11_opens 28 = .ok (.getfield 149, 3) := by decide +kernel
theorem dX11_opens_31 : decode cX11_opens 31 = .ok (.iconst 1, 1) := by decide +kernel
theorem dX11_opens_32 : decode cX11_opens 32 = .ok (.iadd, 1) := by decide +kernel
theorem dX11_opens_33 : decode cX11_opens 33 = .ok (.putfield 149, 3) := by decide +kernel
theorem dX11_opens_36 : decode cX11_opens 36 = .ok (.aload_n 0, 1) := by decide +kernel
theorem dX11_opens_37 : decode cX11_opens 37 = .ok (.invokevirtual 256, 3) := by decide +kernel
theorem dX11_opens_40 : decode cX11_opens 40 = .ok (.aload_n 0, 1) := by decide +kernel
theorem dX11_opens_41 : decode cX11_opens 41 = .ok (.iload_n 1, 1) := by decide +kernel
theorem dX11_opens_42 : decode cX11_opens 42 = .ok (.invokevirtual 319, 3) := by decide +kernel
theorem dX11_opens_45 : decode cX11_opens 45 = .ok (.return_, 1) := by decide +kernel
theorem dX11_isTest_0 : decode cX11_isTest 0 = .ok (.iload_n 0, 1) := by decide +kernel
theorem dX11_isTest_1 : decode cX11_isTest 1 = .ok (.iconst 1, 1) := by decide +kernel
theorem dX11_isTest_2 : decode cX11_isTest 2 = .ok (.if_icmp .eq 8, 3) := by decide +kernel
theorem dX11_isTest_5 : decode cX11_isTest 5 = .ok (.iload_n 0, 1) := by decide +kernel
theorem dX11_isTest_6 : decode cX11_isTest 6 = .ok (.iconst 5, 1) := by decide +kernel
theorem dX11_isTest_7 : decode cX11_isTest 7 = .ok (.if_icmp .ne 7, 3) := by decide +kernel
theorem dX11_isTest_10 : decode cX11_isTest 10 = .ok (.iconst 1, 1) := by decide +kernel
theorem dX11_isTest_11 : decode cX11_isTest 11 = .ok (.goto 4, 3) := by decide +kernel
theorem dX11_isTest_14 : decode cX11_isTest 14 = .ok (.iconst 0, 1) := by decide +kernel
theorem dX11_isTest_15 : decode cX11_isTest 15 = .ok (.ireturn, 1) := by decide +kernel
theorem dX11_operand_0 : decode cX11_operand 0 = .ok (.aload_n 0, 1) := by decide +kernel
theorem dX11_operand_1 : decode cX11_operand 1 = .ok (.getfield 146, 3) := by decide +kernel
theorem dX11_operand_4 : decode cX11_operand 4 = .ok (.iconst 1, 1) := by decide +kernel
theorem dX11_operand_5 : decode cX11_operand 5 = .ok (.isub, 1) := by decide +kernel
theorem dX11_operand_6 : decode cX11_operand 6 = .ok (.istore_n 1, 1) := by decide +kernel
theorem dX11_operand_7 : decode cX11_operand 7 = .ok (.aload_n 0, 1) := by decide +kernel
theorem dX11_operand_8 : decode cX11_operand 8 = .ok (.getfield 130, 3) := by decide +kernel
theorem dX11_operand_11 : decode cX11_operand 11 = .ok (.iload_n 1, 1) := by decide +kernel
theorem dX11_operand_12 : decode cX11_operand 12 = .ok (.iaload, 1) := by decide +kernel
theorem dX11_operand_13 : decode cX11_operand 13 = .ok (.invokestatic 322, 3) := by decide +kernel
theorem dX11_operand_16 : decode cX11_operand 16 = .ok (.ifCond .eq 16, 3) := by decide +kernel
theorem dX11_operand_19 : decode cX11_operand 19 = .ok (.aload_n 0, 1) := by decide +kernel
theorem dX11_operand_20 : decode cX11_operand 20 = .ok (.getfield 136, 3) := by decide +kernel
theorem dX11_operand_23 : decode cX11_operand 23 = .ok (.iload_n 1, 1) := by decide +kernel
theorem dX11_operand_24 : decode cX11_operand 24 = .ok (.baload, 1) := by decide +kernel
theorem dX11_operand_25 : decode cX11_operand 25 = .ok (.ifCond .eq 7, 3) := by decide +kernel
theorem dX11_operand_28 : decode cX11_operand 28 = .ok (.iconst 1, 1) := by decide +kernel
theorem dX11_operand_29 : decode cX11_operand 29 = .ok (.goto 4, 3) := by decide +kernel
theorem dX11_operand_32 : decode cX11_operand 32 = .ok (.iconst 0, 1) := by decide +kernel
theorem dX11_operand_33 : decode cX11_operand 33 = .ok (.istore_n 2, 1) := by decide +kernel
theorem dX11_operand_34 : decode cX11_operand 34 = .ok (.iload_n 2, 1) := by decide +kernel
theorem dX11_operand_35 : decode cX11_operand 35 = .ok (.ifCond .eq 25, 3) := by decide +kernel
theorem dX11_operand_38 : decode cX11_operand 38 = .ok (.aload_n 0, 1) := by decide +kernel
theorem dX11_operand_39 : decode cX11_operand 39 = .ok (.ldc2_w 291, 3) := by decide +kernel
theorem dX11_operand_42 : decode cX11_operand 42 = .ok (.invokevirtual 325, 3) := by decide +kernel
theorem dX11_operand_45 : decode cX11_operand 45 = .ok (.ifCond .eq 15, 3) := by decide +kernel
theorem dX11_operand_48 : decode cX11_operand 48 = .ok (.aload_n 0, 1) := by decide +kernel
theorem dX11_operand_49 : decode cX11_operand 49 = .ok (.bipush 22, 2) := by decide +kernel
theorem dX11_operand_51 : decode cX11_operand 51 = .ok (.invokevirtual 329, 3) := by decide +kernel
theorem dX11_operand_54 : decode cX11_operand 54 = .ok (.aload_n 0, 1) := by decide +kernel
theorem dX11_operand_55 : decode cX11_operand 55 = .ok (.invokevirtual 256, 3) := by decide +kernel
theorem dX11_operand_58 : decode cX11_operand 58 = .ok (.iconst 0, 1) := by decide +kernel
theorem dX11_operand_59 : decode cX11_operand 59 = .ok (.ireturn, 1) := by decide +kernel
theorem dX11_operand_60 : decode cX11_operand 60 = .ok (.aload_n 0, 1) := by decide +kernel
theorem dX11_operand_61 : decode cX11_operand 61 = .ok (.getfield 136, 3) := by decide +kernel
theorem dX11_operand_64 : decode cX11_operand 64 = .ok (.iload_n 1, 1) := by decide +kernel
theorem dX11_operand_65 : decode cX11_operand 65 = .ok (.iconst 0, 1) := by decide +kernel
theorem dX11_operand_66 : decode cX11_operand 66 = .ok (.bastore, 1) := by decide +kernel
theorem dX11_operand_67 : decode cX11_operand 67 = .ok (.iload_n 2, 1) := by decide +kernel
theorem dX11_operand_68 : decode cX11_operand 68 = .ok (.ifCond .eq 19, 3) := by decide +kernel
theorem dX11_operand_71 : decode cX11_operand 71 = .ok (.aload_n 0, 1) := by decide +kernel
theorem dX11_operand_72 : decode cX11_operand 72 = .ok (.bipush 91, 2) := by decide +kernel
theorem dX11_operand_74 : decode cX11_operand 74 = .ok (.invokevirtual 253, 3) := by decide +kernel
theorem dX11_operand_77 : decode cX11_operand 77 = .ok (.ifCond .eq 10, 3) := by decide +kernel
theorem dX11_operand_80 : decode cX11_operand 80 = .ok (.aload_n 0, 1) := by decide +kernel
theorem dX11_operand_81 : decode cX11_operand 81 = .ok (.iconst 5, 1) := by decide +kernel
theorem dX11_operand_82 : decode cX11_operand 82 = .ok (.invokevirtual 332, 3) := by decide +kernel
theorem dX11_operand_85 : decode cX11_operand 85 = .ok (.iconst 0, 1) := by decide +kernel
theorem dX11_operand_86 : decode cX11_operand 86 = .ok (.ireturn, 1) := by decide +kernel
theorem dX11_operand_87 : decode cX11_operand 87 = .ok (.iload_n 2, 1) := by decide +kernel
theorem dX11_operand_88 : decode cX11_operand 88 = .ok (.ifCond .eq 33, 3) := by decide +kernel
theorem dX11_operand_91 : decode cX11_operand 91 = .ok (.aload_n 0, 1) := by decide +kernel
theorem dX11_operand_92 : decode cX11_operand 92 = .ok (.ldc2_w 293, 3) := by decide +kernel
theorem dX11_operand_95 : decode cX11_operand 95 = .ok (.invokevirtual 325, 3) := by decide +kernel
theorem dX11_operand_98 : decode cX11_operand 98 = .ok (.ifCond .eq 23, 3) := by decide +kernel
theorem dX11_operand_101 : decode cX11_operand 101 = .ok (.aload_n 0, 1) := by decide +kernel
theorem dX11_operand_102 : decode cX11_operand 102 = .ok (.bipush 9, 2) := by decide +kernel
theorem dX11_operand_104 : decode cX11_operand 104 = .ok (.iconst 0, 1) := by decide +kernel
theorem dX11_operand_105 : decode cX11_operand 105 = .ok (.invokevirtual 316, 3) := by decide +kernel
theorem dX11_operand_108 : decode cX11_operand 108 = .ok (.aload_n 0, 1) := by decide +kernel
theorem dX11_operand_109 : decode cX11_operand 109 = .ok (.getfield 133, 3) := by decide +kernel
theorem dX11_operand_112 : decode cX11_operand 112 = .ok (.iload_n 1, 1) := by decide +kernel
theorem dX11_operand_113 : decode cX11_operand 113 = .ok (.iconst 2, 1) := by decide +kernel
theorem dX11_operand_114 : decode cX11_operand 114 = .ok (.iastore, 1) := by decide +kernel
theorem dX11_operand_115 : decode cX11_operand 115 = .ok (.aload_n 0, 1) := by decide +kernel
theorem dX11_operand_116 : decode cX11_operand 116 = .ok (.invokevirtual 256, 3) := by decide +kernel
theorem dX11_operand_119 : decode cX11_operand 119 = .ok (.iconst 1, 1) := by decide +kernel
theorem dX11_operand_120 : decode cX11_operand 120 = .ok (.ireturn, 1) := by decide +kernel
theorem dX11_operand_121 : decode cX11_operand 121 = .ok (.aload_n 0, 1) := by decide +kernel
theorem dX11_operand_122 : decode cX11_operand 122 = .ok (.bipush 40, 2) := by decide +kernel
theorem dX11_operand_124 : decode cX11_operand 124 = .ok (.invokevirtual 253, 3) := by decide +kernel
theorem dX11_operand_127 : decode cX11_operand 127 = .ok (.ifCond .eq 10, 3) := by decide +kernel
theorem dX11_operand_130 : decode cX11_operand 130 = .ok (.aload_n 0, 1) := by decide +kernel
theorem dX11_operand_131 : decode cX11_operand 131 = .ok (.iconst 2, 1) := by decide +kernel
theorem dX11_operand_132 : decode cX11_operand 132 = .ok (.invokevirtual 332, 3) := by decide +kernel
theorem dX11_operand_135 : decode cX11_operand 135 = .ok (.iconst 0, 1) := by decide +kernel
theorem dX11_operand_136 : decode cX11_operand 136 = .ok (.ireturn, 1) := by decide +kernel
theorem dX11_operand_137 : decode cX11_operand 137 = .ok (.aload_n 0, 1) := by decide +kernel
theorem dX11_operand_138 : decode cX11_operand 138 = .ok (.ldc2_w 301, 3) := by decide +kernel
theorem dX11_operand_141 : decode cX11_operand 141 = .ok (.invokevirtual 325, 3) := by decide +kernel
theorem dX11_operand_144 : decode cX11_operand 144 = .ok (.ifCond .ne 13, 3) := by decide +kernel
theorem dX11_operand_147 : decode cX11_operand 147 = .ok (.aload_n 0, 1) := by decide +kernel
theorem dX11_operand_148 : decode cX11_operand 148 = .ok (.ldc2_w 303, 3) := by decide +kernel
theorem dX11_operand_151 : decode cX11_operand 151 = .ok (.invokevirtual 325, 3) := by decide +kernel
theorem dX11_operand_154 : decode cX11_operand 154 = .ok (.ifCond .eq 69, 3) := by decide +kernel
theorem dX11_operand_157 : decode cX11_operand 157 = .ok (.aload_n 0, 1) := by decide +kernel
theorem dX11_operand_158 : decode cX11_operand 158 = .ok (.ldc2_w 301, 3) := by decide +kernel
theorem dX11_operand_161 : decode cX11_operand 161 = .ok (.invokevirtual 325, 3) := by decide +kernel
theorem dX11_operand_164 : decode cX11_operand 164 = .ok (.ifCond .eq 8, 3) := by decide +kernel
theorem dX11_operand_167 : decode cX11_operand 167 = .ok (.bipush 15, 2) := by decide +kernel
theorem dX11_operand_169 : decode cX11_operand 169 = .ok (.goto 5, 3) := by decide +kernel
theorem dX11_operand_172 : decode cX11_operand 172 = .ok (.bipush 16, 2) := by decide +kernel
theorem dX11_operand_174 : decode cX11_operand 174 = .ok (.istore_n 3, 1) := by decide +kernel
theorem dX11_operand_175 : decode cX11_operand 175 = .ok (.aload_n 0, 1) := by decide +kernel
theorem dX11_operand_176 : decode cX11_operand 176 = .ok (.invokevirtual 256, 3) := by decide +kernel
theorem dX11_operand_179 : decode cX11_operand 179 = .ok (.aload_n 0, 1) := by decide +kernel
theorem dX11_operand_180 : decode cX11_operand 180 = .ok (.bipush 40, 2) := by decide +kernel
theorem dX11_operand_182 : decode cX11_operand 182 = .ok (.invokevirtual 253, 3) := by decide +kernel
theorem dX11_operand_185 : decode cX11_operand 185 = .ok (.ifCond .ne 12, 3) := by decide +kernel
theorem dX11_operand_188 : decode cX11_operand 188 = .ok (.aload_n 0, 1) := by decide +kernel
theorem dX11_operand_189 : decode cX11_operand 189 = .ok (.iconst 1, 1) := by decide +kernel
theorem dX11_operand_190 : decode cX11_operand 190 = .ok (.aload_n 0, 1) := by decide +kernel
theorem dX11_operand_191 : decode cX11_operand 191 = .ok (.getfield 23, 3) := by decide +kernel
theorem dX11_operand_194 : decode cX11_operand 194 = .ok (.invokevirtual 249, 3) := by decide +kernel
theorem dX11_operand_197 : decode cX11_operand 197 = .ok (.aload_n 0, 1) := by decide +kernel
theorem dX11_operand_198 : decode cX11_operand 198 = .ok (.iconst 3, 1) := by decide +kernel
theorem dX11_operand_199 : decode cX11_operand 199 = .ok (.invokevirtual 332, 3) := by decide +kernel
theorem dX11_operand_202 : decode cX11_operand 202 = .ok (.aload_n 0, 1) := by decide +kernel
theorem dX11_operand_203 : decode cX11_operand 203 = .ok (.getfield 36, 3) := by decide +kernel
theorem dX11_operand_206 : decode cX11_operand 206 = .ok (.ifCond .ne 15, 3) := by decide +kernel
theorem dX11_operand_209 : decode cX11_operand 209 = .ok (.aload_n 0, 1) := by decide +kernel
theorem dX11_operand_210 : decode cX11_operand 210 = .ok (.getfield 140, 3) := by decide +kernel
theorem dX11_operand_213 : decode cX11_operand 213 = .ok (.aload_n 0, 1) := by decide +kernel
theorem dX11_operand_214 : decode cX11_operand 214 = .ok (.getfield 146, 3) := by decide +kernel
theorem dX11_operand_217 : decode cX11_operand 217 = .ok (.iconst 1, 1) := by decide +kernel
theorem dX11_operand_218 : decode cX11_operand 218 = .ok (.isub, 1) := by decide +kernel
theorem dX11_operand_219 : decode cX11_operand 219 = .ok (.iload_n 3, 1) := by decide +kernel
theorem dX11_operand_220 : decode cX11_operand 220 = .ok (.iastore, 1) := by decide +kernel
theorem dX11_operand_221 : decode cX11_operand 221 = .ok (.iconst 0, 1) := by decide +kernel
theorem dX11_operand_222 : decode cX11_operand 222 = .ok (.ireturn, 1) := by decide +kernel
theorem dX11_operand_223 : decode cX11_operand 223 = .ok (.aload_n 0, 1) := by decide +kernel
theorem dX11_operand_224 : decode cX11_operand 224 = .ok (.getfield 20, 3) := by decide +kernel
theorem dX11_operand_227 : decode cX11_operand 227 = .ok (.iconst 2, 1) := by decide +kernel
theorem dX11_operand_228 : decode cX11_operand 228 = .ok (.if_icmp .ne 7, 3) := by decide +kernel
theorem dX11_operand_231 : decode cX11_operand 231 = .ok (.iconst 0, 1) := by decide +kernel
theorem dX11_operand_232 : decode cX11_operand 232 = .ok (.goto 74, 3) := by decide +kernel
theorem dX11_operand_235 : decode cX11_operand 235 = .ok (.aload_n 0, 1) := by decide +kernel
theorem dX11_operand_236 : decode cX11_operand 236 = .ok (.ldc2_w 261, 3) := by decide +kernel
theorem dX11_operand_239 : decode cX11_operand 239 = .ok (.invokevirtual 325, 3) := by decide +kernel
theorem dX11_operand_242 : decode cX11_operand 242 = .ok (.ifCond .eq 7, 3) := by decide +kernel
theorem dX11_operand_245 : decode cX11_operand 245 = .ok (.iconst 1, 1) := by decide +kernel
theorem dX11_operand_246 : decode cX11_operand 246 = .ok (.goto 60, 3) := by decide +kernel
theorem dX11_operand_249 : decode cX11_operand 249 = .ok (.aload_n 0, 1) := by decide +kernel
theorem dX11_operand_250 : decode cX11_operand 250 = .ok (.ldc2_w 295, 3) := by decide +kernel
theorem dX11_operand_253 : decode cX11_operand 253 = .ok (.invokevirtual 325, 3) := by decide +kernel
theorem dX11_operand_256 : decode cX11_operand 256 = .ok (.ifCond .eq 7, 3) := by decide +kernel
theorem dX11_operand_259 : decode cX11_operand 259 = .ok (.iconst 2, 1) := by decide +kernel
theorem dX11_operand_260 : decode cX11_operand 260 = .ok (.goto 46, 3) := by decide +kernel
theorem dX11_operand_263 : decode cX11_operand 263 = .ok (.aload_n 0, 1) := by decide +kernel
theorem dX11_operand_264 : decode cX11_operand 264 = .ok (.ldc2_w 297, 3) := by decide +kernel
theorem dX11_operand_267 : decode cX11_operand 267 = .ok (.invokevirtual 325, 3) := by decide +kernel
theorem dX11_operand_270 : decode cX11_operand 270 = .ok (.ifCond .eq 7, 3) := by decide +kernel
theorem dX11_operand_273 : decode cX11_operand 273 = .ok (.iconst 3, 1) := by decide +kernel
theorem dX11_operand_274 : decode cX11_operand 274 = .ok (.goto 32, 3) := by decide +kernel
theorem dX11_operand_277 : decode cX11_operand 277 = .ok (.aload_n 0, 1) := by decide +kernel
theorem dX11_operand_278 : decode cX11_operand 278 = .ok (.ldc2_w 271, 3) := by decide +kernel
theorem dX11_operand_281 : decode cX11_operand 281 = .ok (.invokevirtual 325, 3) := by decide +kernel
theorem dX11_operand_284 : decode cX11_operand 284 = .ok (.ifCond .eq 7, 3) := by decide +kernel
theorem dX11_operand_287 : decode cX11_operand 287 = .ok (.iconst 4, 1) := by decide +kernel
theorem dX11_operand_288 : decode cX11_operand 288 = .ok (.goto 18, 3) := by decide +kernel
theorem dX11_operand_291 : decode cX11_operand 291 = .ok (.aload_n 0, 1) := by decide +kernel
theorem dX11_operand_292 : decode cX11_operand 292 = .ok (.ldc2_w 299, 3) := by decide +kernel
theorem dX11_operand_295 : decode cX11_operand 295 = .ok (.invokevirtual 325, 3) := by decide +kernel
theorem dX11_operand_298 : decode cX11_operand 298 = .ok (.ifCond .eq 7, 3) := by decide +kernel
theorem dX11_operand_301 : decode cX11_operand 301 = .ok (.iconst 5, 1) := by decide +kernel
theorem dX11_operand_302 : decode cX11_operand 302 = .ok (.goto 4, 3) := by decide +kernel
theorem dX11_operand_305 : decode cX11_operand 305 = .ok (.iconst (-1), 1) := by decide +kernel
theorem dX11_operand_306 : decode cX11_operand 306 = .ok (.istore_n 3, 1) := by decide +kernel
theorem dX11_operand_307 : decode cX11_operand 307 = .ok (.iload_n 3, 1) := by decide +kernel
theorem dX11_operand_308 : decode cX11_operand 308 = .ok (.iconst (-1), 1) := by decide +kernel
theorem dX11_operand_309 : decode cX11_operand 309 = .ok (.if_icmp .ne 12, 3) := by decide +kernel
