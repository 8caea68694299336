def tbG : List Cond := lw_tbl.filter goodWord
theorem tb_of {w : Cond} (h : w ∈ lw_tbl) (hg : goodWord w = true) : w ∈ tbG := List.mem_filter.mpr ⟨h, hg⟩
theorem tb_hts {args : Array Value} {s : State} (h : ∀ w ∈ lw_tbl, w.before args s = true) : ∀ w ∈ tbG, w.before args s = true := fun w hw => h w (List.mem_filter.mp hw).1
theorem tb_good : GoodIn tbG tbG := fun w hw => ⟨hw, good_of_word (List.mem_filter.mp hw).2⟩
theorem tb_p {w : Cond} (h : w ∈ k2_sels lw_privs) (hg : goodWord w = true) : w ∈ tbG := tb_of (List.mem_append_left _ h) hg
theorem tb_t {w : Cond} (h : w ∈ tables_1) (hg : goodWord w = true) : w ∈ tbG := tb_of (List.mem_append_right _ h) hg
theorem tb_1 {w : Cond} (h : w ∈ tables_1_1) (hg : goodWord w = true) : w ∈ tbG := tb_t (List.mem_append_left _ h) hg
theorem tb_2 {w : Cond} (h : w ∈ tables_1_2) (hg : goodWord w = true) : w ∈ tbG := tb_t (List.mem_append_right _ (List.mem_append_left _ h)) hg
theorem tb_3 {w : Cond} (h : w ∈ tables_1_3) (hg : goodWord w = true) : w ∈ tbG := tb_t (List.mem_append_right _ (List.mem_append_right _ (List.mem_append_left _ h))) hg
theorem tb_4 {w : Cond} (h : w ∈ tables_1_4) (hg : goodWord w = true) : w ∈ tbG := tb_t (List.mem_append_right _ (List.mem_append_right _ (List.mem_append_right _ (List.mem_append_left _ h)))) hg
theorem tb_5 {w : Cond} (h : w ∈ tables_1_5) (hg : goodWord w = true) : w ∈ tbG := tb_t (List.mem_append_right _ (List.mem_append_right _ (List.mem_append_right _ (List.mem_append_right _ (List.mem_append_left _ h))))) hg
theorem tb_6 {w : Cond} (h : w ∈ tables_1_6) (hg : goodWord w = true) : w ∈ tbG := tb_t (List.mem_append_right _ (List.mem_append_right _ (List.mem_append_right _ (List.mem_append_right _ (List.mem_append_right _ (List.mem_append_left _ h)))))) hg
theorem tb_7 {w : Cond} (h : w ∈ tables_1_7) (hg : goodWord w = true) : w ∈ tbG := tb_t (List.mem_append_right _ (List.mem_append_right _ (List.mem_append_right _ (List.mem_append_right _ (List.mem_append_right _ (List.mem_append_right _ (List.mem_append_left _ h))))))) hg
theorem tb_8 {w : Cond} (h : w ∈ tables_1_8) (hg : goodWord w = true) : w ∈ tbG := tb_t (List.mem_append_right _ (List.mem_append_right _ (List.mem_append_right _ (List.mem_append_right _ (List.mem_append_right _ (List.mem_append_right _ (List.mem_append_right _ (List.mem_append_left _ h)))))))) hg
theorem tb_9 {w : Cond} (h : w ∈ tables_1_9) (hg : goodWord w = true) : w ∈ tbG := tb_t (List.mem_append_right _ (List.mem_append_right _ (List.mem_append_right _ (List.mem_append_right _ (List.mem_append_right _ (List.mem_append_right _ (List.mem_append_right _ (List.mem_append_right _ h)))))))) hg
theorem ini_L : Cond.initialized RL ∈ tbG := tb_1 (List.mem_of_getElem? (i := 0) rfl) rfl
theorem ini_X10 : Cond.initialized RX10 ∈ tbG := tb_1 (List.mem_of_getElem? (i := 1) rfl) rfl
theorem ini_X6 : Cond.initialized RX6 ∈ tbG := tb_1 (List.mem_of_getElem? (i := 2) rfl) rfl
theorem ini_X4 : Cond.initialized RX4 ∈ tbG := tb_1 (List.mem_of_getElem? (i := 7) rfl) rfl
theorem ini_X8 : Cond.initialized RX8 ∈ tbG := tb_1 (List.mem_of_getElem? (i := 8) rfl) rfl
theorem ini_J7 : Cond.initialized RJ7 ∈ tbG := tb_1 (List.mem_of_getElem? (i := 9) rfl) rfl
theorem ini_X5 : Cond.initialized RX5 ∈ tbG := tb_1 (List.mem_of_getElem? (i := 10) rfl) rfl
theorem ini_X9 : Cond.initialized RX9 ∈ tbG := tb_1 (List.mem_of_getElem? (i := 11) rfl) rfl
theorem ini_X2 : Cond.initialized RX2 ∈ tbG := tb_1 (List.mem_of_getElem? (i := 12) rfl) rfl
theorem ini_X7 : Cond.initialized RX7 ∈ tbG := tb_1 (List.mem_of_getElem? (i := 13) rfl) rfl
theorem ini_X0 : Cond.initialized RX0 ∈ tbG := tb_1 (List.mem_of_getElem? (i := 14) rfl) rfl
theorem ini_X1 : Cond.initialized RX1 ∈ tbG := tb_1 (List.mem_of_getElem? (i := 15) rfl) rfl
theorem ini_X3 : Cond.initialized RX3 ∈ tbG := tb_1 (List.mem_of_getElem? (i := 16) rfl) rfl
theorem ini_X11 : Cond.initialized RX11 ∈ tbG := tb_1 (List.mem_of_getElem? (i := 17) rfl) rfl
theorem ini_J9 : Cond.initialized RJ9 ∈ tbG := tb_1 (List.mem_of_getElem? (i := 18) rfl) rfl
theorem ini_J10 : Cond.initialized RJ10 ∈ tbG := tb_1 (List.mem_of_getElem? (i := 19) rfl) rfl
theorem ini_J6 : Cond.initialized RJ6 ∈ tbG := tb_1 (List.mem_of_getElem? (i := 20) rfl) rfl
theorem lk_L_7 : Cond.classLink RL 7 RX10 ∈ tbG := tb_1 (List.mem_of_getElem? (i := 21) rfl) rfl
theorem ins_X10 : Cond.instantiable RX10 12 ∈ tbG := tb_1 (List.mem_of_getElem? (i := 22) rfl) rfl
theorem lk_L_9 : Cond.methodLink RL 9 yX10_init ∈ tbG := tb_1 (List.mem_of_getElem? (i := 23) rfl) rfl
theorem im_X10_init : Cond.instanceMethod yX10_init ∈ tbG := tb_1 (List.mem_of_getElem? (i := 24) rfl) rfl
theorem cd_X10_init : Cond.code yX10_init cX10_init 1 none ∈ tbG := tb_1 (List.mem_of_getElem? (i := 25) rfl) rfl
theorem lk_X10_1 : Cond.methodLink RX10 1 objectInit ∈ tbG := tb_1 (List.mem_of_getElem? (i := 26) rfl) rfl
theorem lk_X10_16 : Cond.classLink RX10 16 RX6 ∈ tbG := tb_1 (List.mem_of_getElem? (i := 29) rfl) rfl
theorem ins_X6 : Cond.instantiable RX6 10 ∈ tbG := tb_1 (List.mem_of_getElem? (i := 30) rfl) rfl
theorem lk_X10_18 : Cond.methodLink RX10 18 yX6_init ∈ tbG := tb_1 (List.mem_of_getElem? (i := 31) rfl) rfl
theorem im_X6_init : Cond.instanceMethod yX6_init ∈ tbG := tb_1 (List.mem_of_getElem? (i := 32) rfl) rfl
theorem cd_X6_init : Cond.code yX6_init cX6_init 2 none ∈ tbG := tb_1 (List.mem_of_getElem? (i := 33) rfl) rfl
theorem lk_X6_5 : Cond.methodLink RX6 5 objectInit ∈ tbG := tb_1 (List.mem_of_getElem? (i := 34) rfl) rfl
theorem lk_X6_18 : Cond.methodLink RX6 18 yX6_fillOwnNames ∈ tbG := tb_1 (List.mem_of_getElem? (i := 35) rfl) rfl
theorem im_X6_fillOwnNames : Cond.instanceMethod yX6_fillOwnNames ∈ tbG := tb_1 (List.mem_of_getElem? (i := 37) rfl) rfl
theorem cd_X6_fillOwnNames : Cond.code yX6_fillOwnNames cX6_fillOwnNames 5 none ∈ tbG := tb_1 (List.mem_of_getElem? (i := 38) rfl) rfl
theorem lk_X6_23 : Cond.methodLink RX6 23 ⟨"java/lang/String", "length", "()I"⟩ ∈ tbG := tb_1 (List.mem_of_getElem? (i := 40) rfl) rfl
theorem lk_X6_29 : Cond.methodLink RX6 29 ⟨"java/lang/String", "charAt", "(I)C"⟩ ∈ tbG := tb_1 (List.mem_of_getElem? (i := 50) rfl) rfl
theorem lk_X6_11 : Cond.fieldLink RX6 11 "LeadNames$Reader" "text" "[I" ∈ tbG := tb_1 (List.mem_of_getElem? (i := 88) rfl) rfl
theorem lk_X6_15 : Cond.fieldLink RX6 15 "LeadNames$Reader" "ownNames" "[I" ∈ tbG := tb_1 (List.mem_of_getElem? (i := 89) rfl) rfl
theorem lk_X6_42 : Cond.fieldLink RX6 42 "LeadNames$Reader" "length" "I" ∈ tbG := tb_1 (List.mem_of_getElem? (i := 90) rfl) rfl
theorem lk_X6_45 : Cond.fieldLink RX6 45 "LeadNames$Reader" "next" "I" ∈ tbG := tb_1 (List.mem_of_getElem? (i := 91) rfl) rfl
theorem lk_X6_48 : Cond.fieldLink RX6 48 "LeadNames$Reader" "at" "I" ∈ tbG := tb_1 (List.mem_of_getElem? (i := 92) rfl) rfl
theorem lk_X6_65 : Cond.fieldLink RX6 65 "LeadNames$Reader" "token" "I" ∈ tbG := tb_1 (List.mem_of_getElem? (i := 93) rfl) rfl
theorem lk_X6_79 : Cond.fieldLink RX6 79 "LeadNames$Reader" "value" "I" ∈ tbG := tb_1 (List.mem_of_getElem? (i := 94) rfl) rfl
theorem lk_X5_116 : Cond.fieldLink RX5 116 "LeadNames$Reader" "value" "I" ∈ tbG := tb_1 (List.mem_of_getElem? (i := 95) rfl) rfl
theorem lk_X6_51 : Cond.fieldLink RX6 51 "LeadNames$Reader" "isRead" "Z" ∈ tbG := tb_1 (List.mem_of_getElem? (i := 96) rfl) rfl
theorem lk_X6_55 : Cond.fieldLink RX6 55 "LeadNames$Reader" "fault" "I" ∈ tbG := tb_1 (List.mem_of_getElem? (i := 97) rfl) rfl
theorem lk_X10_102 : Cond.fieldLink RX10 102 "LeadNames$Reader" "fault" "I" ∈ tbG := tb_1 (List.mem_of_getElem? (i := 98) rfl) rfl
theorem lk_X6_58 : Cond.fieldLink RX6 58 "LeadNames$Reader" "place" "I" ∈ tbG := tb_1 (List.mem_of_getElem? (i := 99) rfl) rfl
theorem lk_X10_103 : Cond.fieldLink RX10 103 "LeadNames$Reader" "place" "I" ∈ tbG := tb_1 (List.mem_of_getElem? (i := 100) rfl) rfl
theorem ac_int : Cond.arrayClass .int ∈ tbG := tb_1 (List.mem_of_getElem? (i := 122) rfl) rfl
theorem ac_byte : Cond.arrayClass .byte ∈ tbG := tb_1 (List.mem_of_getElem? (i := 123) rfl) rfl
theorem lk_X10_25 : Cond.classLink RX10 25 RX4 ∈ tbG := tb_1 (List.mem_of_getElem? (i := 124) rfl) rfl
theorem ins_X4 : Cond.instantiable RX4 11 ∈ tbG := tb_1 (List.mem_of_getElem? (i := 125) rfl) rfl
theorem lk_X10_27 : Cond.methodLink RX10 27 yX4_init ∈ tbG := tb_1 (List.mem_of_getElem? (i := 126) rfl) rfl
theorem im_X4_init : Cond.instanceMethod yX4_init ∈ tbG := tb_1 (List.mem_of_getElem? (i := 127) rfl) rfl
theorem cd_X4_init : Cond.code yX4_init cX4_init 1 none ∈ tbG := tb_1 (List.mem_of_getElem? (i := 128) rfl) rfl
theorem lk_X4_3 : Cond.methodLink RX4 3 objectInit ∈ tbG := tb_1 (List.mem_of_getElem? (i := 129) rfl) rfl
theorem lk_X4_9 : Cond.classLink RX4 9 RX8 ∈ tbG := tb_1 (List.mem_of_getElem? (i := 130) rfl) rfl
theorem ins_X8 : Cond.instantiable RX8 5 ∈ tbG := tb_1 (List.mem_of_getElem? (i := 131) rfl) rfl
theorem lk_X4_11 : Cond.methodLink RX4 11 yX8_init ∈ tbG := tb_1 (List.mem_of_getElem? (i := 132) rfl) rfl
theorem im_X8_init : Cond.instanceMethod yX8_init ∈ tbG := tb_1 (List.mem_of_getElem? (i := 133) rfl) rfl
theorem cd_X8_init : Cond.code yX8_init cX8_init 3 none ∈ tbG := tb_1 (List.mem_of_getElem? (i := 134) rfl) rfl
theorem lk_X8_3 : Cond.methodLink RX8 3 objectInit ∈ tbG := tb_1 (List.mem_of_getElem? (i := 135) rfl) rfl
theorem lk_X8_9 : Cond.fieldLink RX8 9 "LeadNames$Roll" "limit" "I" ∈ tbG := tb_1 (List.mem_of_getElem? (i := 136) rfl) rfl
theorem lk_X8_15 : Cond.fieldLink RX8 15 "LeadNames$Roll" "width" "I" ∈ tbG := tb_1 (List.mem_of_getElem? (i := 137) rfl) rfl
theorem lk_X8_18 : Cond.fieldLink RX8 18 "LeadNames$Roll" "names" "[I" ∈ tbG := tb_1 (List.mem_of_getElem? (i := 138) rfl) rfl
theorem lk_X8_22 : Cond.fieldLink RX8 22 "LeadNames$Roll" "numbers" "[I" ∈ tbG := tb_1 (List.mem_of_getElem? (i := 139) rfl) rfl
theorem lk_X8_25 : Cond.fieldLink RX8 25 "LeadNames$Roll" "size" "I" ∈ tbG := tb_1 (List.mem_of_getElem? (i := 140) rfl) rfl
theorem lk_X4_51 : Cond.fieldLink RX4 51 "LeadNames$Roll" "size" "I" ∈ tbG := tb_1 (List.mem_of_getElem? (i := 141) rfl) rfl
theorem lk_X1_42 : Cond.fieldLink RX1 42 "LeadNames$Roll" "size" "I" ∈ tbG := tb_1 (List.mem_of_getElem? (i := 142) rfl) rfl
theorem lk_X9_43 : Cond.fieldLink RX9 43 "LeadNames$Roll" "size" "I" ∈ tbG := tb_1 (List.mem_of_getElem? (i := 143) rfl) rfl
theorem lk_X3_38 : Cond.fieldLink RX3 38 "LeadNames$Roll" "size" "I" ∈ tbG := tb_1 (List.mem_of_getElem? (i := 144) rfl) rfl
theorem lk_X0_26 : Cond.fieldLink RX0 26 "LeadNames$Roll" "size" "I" ∈ tbG := tb_1 (List.mem_of_getElem? (i := 145) rfl) rfl
theorem lk_X10_119 : Cond.fieldLink RX10 119 "LeadNames$Roll" "size" "I" ∈ tbG := tb_1 (List.mem_of_getElem? (i := 146) rfl) rfl
theorem lk_X2_103 : Cond.fieldLink RX2 103 "LeadNames$Roll" "size" "I" ∈ tbG := tb_1 (List.mem_of_getElem? (i := 147) rfl) rfl
theorem lk_X5_131 : Cond.fieldLink RX5 131 "LeadNames$Roll" "size" "I" ∈ tbG := tb_1 (List.mem_of_getElem? (i := 148) rfl) rfl
theorem lk_X4_45 : Cond.methodLink RX4 45 yJ7_fill_53178 ∈ tbG := tb_1 (List.mem_of_getElem? (i := 160) rfl) rfl
theorem sm_J7_fill_53178 : Cond.static yJ7_fill_53178 ∈ tbG := tb_1 (List.mem_of_getElem? (i := 161) rfl) rfl
theorem cd_J7_fill_53178 : Cond.code yJ7_fill_53178 cJ7_fill_53178 4 none ∈ tbG := tb_1 (List.mem_of_getElem? (i := 162) rfl) rfl
theorem lk_X4_14 : Cond.fieldLink RX4 14 "LeadNames$Land" "persons" "LLeadNames$Roll;" ∈ tbG := tb_1 (List.mem_of_getElem? (i := 163) rfl) rfl
theorem lk_X3_32 : Cond.fieldLink RX3 32 "LeadNames$Land" "persons" "LLeadNames$Roll;" ∈ tbG := tb_1 (List.mem_of_getElem? (i := 164) rfl) rfl
theorem lk_X2_87 : Cond.fieldLink RX2 87 "LeadNames$Land" "persons" "LLeadNames$Roll;" ∈ tbG := tb_1 (List.mem_of_getElem? (i := 165) rfl) rfl
theorem lk_X5_92 : Cond.fieldLink RX5 92 "LeadNames$Land" "persons" "LLeadNames$Roll;" ∈ tbG := tb_1 (List.mem_of_getElem? (i := 166) rfl) rfl
theorem lk_X10_115 : Cond.fieldLink RX10 115 "LeadNames$Land" "persons" "LLeadNames$Roll;" ∈ tbG := tb_1 (List.mem_of_getElem? (i := 167) rfl) rfl
theorem lk_X1_173 : Cond.fieldLink RX1 173 "LeadNames$Land" "persons" "LLeadNames$Roll;" ∈ tbG := tb_1 (List.mem_of_getElem? (i := 168) rfl) rfl
theorem lk_X4_20 : Cond.fieldLink RX4 20 "LeadNames$Land" "titles" "LLeadNames$Roll;" ∈ tbG := tb_1 (List.mem_of_getElem? (i := 169) rfl) rfl
theorem lk_X9_37 : Cond.fieldLink RX9 37 "LeadNames$Land" "titles" "LLeadNames$Roll;" ∈ tbG := tb_1 (List.mem_of_getElem? (i := 170) rfl) rfl
theorem lk_X2_97 : Cond.fieldLink RX2 97 "LeadNames$Land" "titles" "LLeadNames$Roll;" ∈ tbG := tb_1 (List.mem_of_getElem? (i := 171) rfl) rfl
theorem lk_X5_107 : Cond.fieldLink RX5 107 "LeadNames$Land" "titles" "LLeadNames$Roll;" ∈ tbG := tb_1 (List.mem_of_getElem? (i := 172) rfl) rfl
theorem lk_X10_124 : Cond.fieldLink RX10 124 "LeadNames$Land" "titles" "LLeadNames$Roll;" ∈ tbG := tb_1 (List.mem_of_getElem? (i := 173) rfl) rfl
theorem lk_X1_137 : Cond.fieldLink RX1 137 "LeadNames$Land" "titles" "LLeadNames$Roll;" ∈ tbG := tb_1 (List.mem_of_getElem? (i := 174) rfl) rfl
theorem lk_X3_108 : Cond.fieldLink RX3 108 "LeadNames$Land" "titles" "LLeadNames$Roll;" ∈ tbG := tb_1 (List.mem_of_getElem? (i := 175) rfl) rfl
theorem lk_X4_23 : Cond.fieldLink RX4 23 "LeadNames$Land" "ages" "LLeadNames$Roll;" ∈ tbG := tb_1 (List.mem_of_getElem? (i := 176) rfl) rfl
theorem lk_X10_127 : Cond.fieldLink RX10 127 "LeadNames$Land" "ages" "LLeadNames$Roll;" ∈ tbG := tb_1 (List.mem_of_getElem? (i := 177) rfl) rfl
theorem lk_X5_128 : Cond.fieldLink RX5 128 "LeadNames$Land" "ages" "LLeadNames$Roll;" ∈ tbG := tb_1 (List.mem_of_getElem? (i := 178) rfl) rfl
theorem lk_X4_26 : Cond.fieldLink RX4 26 "LeadNames$Land" "laws" "LLeadNames$Roll;" ∈ tbG := tb_1 (List.mem_of_getElem? (i := 179) rfl) rfl
theorem lk_X0_20 : Cond.fieldLink RX0 20 "LeadNames$Land" "laws" "LLeadNames$Roll;" ∈ tbG := tb_1 (List.mem_of_getElem? (i := 180) rfl) rfl
theorem lk_X10_130 : Cond.fieldLink RX10 130 "LeadNames$Land" "laws" "LLeadNames$Roll;" ∈ tbG := tb_1 (List.mem_of_getElem? (i := 181) rfl) rfl
theorem lk_X5_141 : Cond.fieldLink RX5 141 "LeadNames$Land" "laws" "LLeadNames$Roll;" ∈ tbG := tb_1 (List.mem_of_getElem? (i := 182) rfl) rfl
theorem lk_X4_29 : Cond.fieldLink RX4 29 "LeadNames$Land" "bridges" "LLeadNames$Roll;" ∈ tbG := tb_1 (List.mem_of_getElem? (i := 183) rfl) rfl
theorem lk_X10_133 : Cond.fieldLink RX10 133 "LeadNames$Land" "bridges" "LLeadNames$Roll;" ∈ tbG := tb_1 (List.mem_of_getElem? (i := 184) rfl) rfl
theorem lk_X5_110 : Cond.fieldLink RX5 110 "LeadNames$Land" "bridges" "LLeadNames$Roll;" ∈ tbG := tb_1 (List.mem_of_getElem? (i := 185) rfl) rfl
theorem lk_X4_32 : Cond.fieldLink RX4 32 "LeadNames$Land" "ounces" "[I" ∈ tbG := tb_1 (List.mem_of_getElem? (i := 186) rfl) rfl
theorem lk_X5_82 : Cond.fieldLink RX5 82 "LeadNames$Land" "ounces" "[I" ∈ tbG := tb_1 (List.mem_of_getElem? (i := 187) rfl) rfl
theorem lk_X4_36 : Cond.fieldLink RX4 36 "LeadNames$Land" "heap" "[I" ∈ tbG := tb_1 (List.mem_of_getElem? (i := 188) rfl) rfl
theorem lk_X2_78 : Cond.fieldLink RX2 78 "LeadNames$Land" "heap" "[I" ∈ tbG := tb_1 (List.mem_of_getElem? (i := 189) rfl) rfl
theorem lk_X5_86 : Cond.fieldLink RX5 86 "LeadNames$Land" "heap" "[I" ∈ tbG := tb_1 (List.mem_of_getElem? (i := 190) rfl) rfl
theorem lk_X4_39 : Cond.fieldLink RX4 39 "LeadNames$Land" "had" "[I" ∈ tbG := tb_1 (List.mem_of_getElem? (i := 191) rfl) rfl
theorem lk_X2_69 : Cond.fieldLink RX2 69 "LeadNames$Land" "had" "[I" ∈ tbG := tb_1 (List.mem_of_getElem? (i := 192) rfl) rfl
theorem lk_X5_125 : Cond.fieldLink RX5 125 "LeadNames$Land" "had" "[I" ∈ tbG := tb_1 (List.mem_of_getElem? (i := 193) rfl) rfl
theorem lk_X4_42 : Cond.fieldLink RX4 42 "LeadNames$Land" "code" "[I" ∈ tbG := tb_1 (List.mem_of_getElem? (i := 194) rfl) rfl
theorem lk_X0_33 : Cond.fieldLink RX0 33 "LeadNames$Land" "code" "[I" ∈ tbG := tb_1 (List.mem_of_getElem? (i := 195) rfl) rfl
theorem lk_X4_55 : Cond.fieldLink RX4 55 "LeadNames$Land" "codeLength" "I" ∈ tbG := tb_1 (List.mem_of_getElem? (i := 196) rfl) rfl
theorem lk_X5_144 : Cond.fieldLink RX5 144 "LeadNames$Land" "codeLength" "I" ∈ tbG := tb_1 (List.mem_of_getElem? (i := 197) rfl) rfl
theorem lk_X2_60 : Cond.fieldLink RX2 60 "LeadNames$Land" "year" "I" ∈ tbG := tb_1 (List.mem_of_getElem? (i := 198) rfl) rfl
theorem lk_X4_58 : Cond.fieldLink RX4 58 "LeadNames$Land" "year" "I" ∈ tbG := tb_1 (List.mem_of_getElem? (i := 199) rfl) rfl
theorem lk_X5_89 : Cond.fieldLink RX5 89 "LeadNames$Land" "year" "I" ∈ tbG := tb_1 (List.mem_of_getElem? (i := 200) rfl) rfl
theorem lk_X10_32 : Cond.classLink RX10 32 RX5 ∈ tbG := tb_1 (List.mem_of_getElem? (i := 224) rfl) rfl
theorem ins_X5 : Cond.instantiable RX5 3 ∈ tbG := tb_1 (List.mem_of_getElem? (i := 225) rfl) rfl
theorem lk_X10_34 : Cond.methodLink RX10 34 yX5_init ∈ tbG := tb_1 (List.mem_of_getElem? (i := 226) rfl) rfl
theorem im_X5_init : Cond.instanceMethod yX5_init ∈ tbG := tb_1 (List.mem_of_getElem? (i := 227) rfl) rfl
theorem cd_X5_init : Cond.code yX5_init cX5_init 3 none ∈ tbG := tb_1 (List.mem_of_getElem? (i := 228) rfl) rfl
theorem lk_X5_3 : Cond.methodLink RX5 3 objectInit ∈ tbG := tb_1 (List.mem_of_getElem? (i := 229) rfl) rfl
theorem lk_X5_9 : Cond.fieldLink RX5 9 "LeadNames$Parser" "reader" "LLeadNames$Reader;" ∈ tbG := tb_1 (List.mem_of_getElem? (i := 230) rfl) rfl
theorem lk_X5_15 : Cond.fieldLink RX5 15 "LeadNames$Parser" "land" "LLeadNames$Land;" ∈ tbG := tb_1 (List.mem_of_getElem? (i := 231) rfl) rfl
theorem lk_X5_19 : Cond.fieldLink RX5 19 "LeadNames$Parser" "taken" "I" ∈ tbG := tb_1 (List.mem_of_getElem? (i := 232) rfl) rfl
theorem lk_X10_41 : Cond.classLink RX10 41 RX9 ∈ tbG := tb_2 (List.mem_of_getElem? (i := 0) rfl) rfl
theorem ins_X9 : Cond.instantiable RX9 15 ∈ tbG := tb_2 (List.mem_of_getElem? (i := 1) rfl) rfl
theorem lk_X10_43 : Cond.methodLink RX10 43 yX9_init ∈ tbG := tb_2 (List.mem_of_getElem? (i := 2) rfl) rfl
theorem im_X9_init : Cond.instanceMethod yX9_init ∈ tbG := tb_2 (List.mem_of_getElem? (i := 3) rfl) rfl
theorem cd_X9_init : Cond.code yX9_init cX9_init 1 none ∈ tbG := tb_2 (List.mem_of_getElem? (i := 4) rfl) rfl
theorem lk_X9_3 : Cond.methodLink RX9 3 objectInit ∈ tbG := tb_2 (List.mem_of_getElem? (i := 5) rfl) rfl
theorem lk_X9_9 : Cond.fieldLink RX9 9 "LeadNames$Search" "ounces" "[I" ∈ tbG := tb_2 (List.mem_of_getElem? (i := 6) rfl) rfl
theorem lk_X9_15 : Cond.fieldLink RX9 15 "LeadNames$Search" "honours" "[I" ∈ tbG := tb_2 (List.mem_of_getElem? (i := 7) rfl) rfl
theorem lk_X9_18 : Cond.fieldLink RX9 18 "LeadNames$Search" "honourLeft" "[I" ∈ tbG := tb_2 (List.mem_of_getElem? (i := 8) rfl) rfl
theorem lk_X9_21 : Cond.fieldLink RX9 21 "LeadNames$Search" "bullets" "[I" ∈ tbG := tb_2 (List.mem_of_getElem? (i := 9) rfl) rfl
theorem lk_X9_24 : Cond.fieldLink RX9 24 "LeadNames$Search" "bulletsBelow" "[I" ∈ tbG := tb_2 (List.mem_of_getElem? (i := 10) rfl) rfl
theorem lk_X9_27 : Cond.fieldLink RX9 27 "LeadNames$Search" "loads" "[I" ∈ tbG := tb_2 (List.mem_of_getElem? (i := 11) rfl) rfl
theorem lk_X9_30 : Cond.fieldLink RX9 30 "LeadNames$Search" "groups" "[I" ∈ tbG := tb_2 (List.mem_of_getElem? (i := 12) rfl) rfl
theorem lk_X9_33 : Cond.fieldLink RX9 33 "LeadNames$Search" "offered" "I" ∈ tbG := tb_2 (List.mem_of_getElem? (i := 13) rfl) rfl
theorem lk_X9_54 : Cond.fieldLink RX9 54 "LeadNames$Search" "count" "I" ∈ tbG := tb_2 (List.mem_of_getElem? (i := 14) rfl) rfl
theorem lk_X9_64 : Cond.fieldLink RX9 64 "LeadNames$Search" "bestBits" "I" ∈ tbG := tb_2 (List.mem_of_getElem? (i := 15) rfl) rfl
theorem lk_X9_67 : Cond.fieldLink RX9 67 "LeadNames$Search" "bestHonour" "I" ∈ tbG := tb_2 (List.mem_of_getElem? (i := 16) rfl) rfl
theorem lk_X9_86 : Cond.fieldLink RX9 86 "LeadNames$Search" "found" "I" ∈ tbG := tb_2 (List.mem_of_getElem? (i := 17) rfl) rfl
theorem lk_X10_300 : Cond.fieldLink RX10 300 "LeadNames$Search" "found" "I" ∈ tbG := tb_2 (List.mem_of_getElem? (i := 18) rfl) rfl
theorem lk_X9_89 : Cond.fieldLink RX9 89 "LeadNames$Search" "first" "I" ∈ tbG := tb_2 (List.mem_of_getElem? (i := 19) rfl) rfl
theorem lk_X10_303 : Cond.fieldLink RX10 303 "LeadNames$Search" "first" "I" ∈ tbG := tb_2 (List.mem_of_getElem? (i := 20) rfl) rfl
theorem lk_X9_96 : Cond.fieldLink RX9 96 "LeadNames$Search" "capacity" "I" ∈ tbG := tb_2 (List.mem_of_getElem? (i := 21) rfl) rfl
theorem lk_X9_104 : Cond.fieldLink RX9 104 "LeadNames$Search" "fewest" "I" ∈ tbG := tb_2 (List.mem_of_getElem? (i := 22) rfl) rfl
theorem lk_X10_48 : Cond.classLink RX10 48 RX2 ∈ tbG := tb_2 (List.mem_of_getElem? (i := 54) rfl) rfl
theorem ins_X2 : Cond.instantiable RX2 12 ∈ tbG := tb_2 (List.mem_of_getElem? (i := 55) rfl) rfl
theorem lk_X10_50 : Cond.methodLink RX10 50 yX2_init ∈ tbG := tb_2 (List.mem_of_getElem? (i := 56) rfl) rfl
theorem im_X2_init : Cond.instanceMethod yX2_init ∈ tbG := tb_2 (List.mem_of_getElem? (i := 57) rfl) rfl
theorem cd_X2_init : Cond.code yX2_init cX2_init 2 none ∈ tbG := tb_2 (List.mem_of_getElem? (i := 58) rfl) rfl
theorem lk_X2_3 : Cond.methodLink RX2 3 objectInit ∈ tbG := tb_2 (List.mem_of_getElem? (i := 59) rfl) rfl
theorem lk_X2_44 : Cond.classLink RX2 44 RX7 ∈ tbG := tb_2 (List.mem_of_getElem? (i := 60) rfl) rfl
theorem ins_X7 : Cond.instantiable RX7 5 ∈ tbG := tb_2 (List.mem_of_getElem? (i := 61) rfl) rfl
theorem lk_X2_46 : Cond.methodLink RX2 46 yX7_init ∈ tbG := tb_2 (List.mem_of_getElem? (i := 62) rfl) rfl
theorem im_X7_init : Cond.instanceMethod yX7_init ∈ tbG := tb_2 (List.mem_of_getElem? (i := 63) rfl) rfl
theorem cd_X7_init : Cond.code yX7_init cX7_init 3 none ∈ tbG := tb_2 (List.mem_of_getElem? (i := 64) rfl) rfl
theorem lk_X7_3 : Cond.methodLink RX7 3 objectInit ∈ tbG := tb_2 (List.mem_of_getElem? (i := 65) rfl) rfl
theorem lk_X7_9 : Cond.fieldLink RX7 9 "LeadNames$Ring" "limit" "I" ∈ tbG := tb_2 (List.mem_of_getElem? (i := 66) rfl) rfl
theorem lk_X7_15 : Cond.fieldLink RX7 15 "LeadNames$Ring" "width" "I" ∈ tbG := tb_2 (List.mem_of_getElem? (i := 67) rfl) rfl
theorem lk_X7_18 : Cond.fieldLink RX7 18 "LeadNames$Ring" "numbers" "[I" ∈ tbG := tb_2 (List.mem_of_getElem? (i := 68) rfl) rfl
theorem lk_X7_22 : Cond.fieldLink RX7 22 "LeadNames$Ring" "oldest" "I" ∈ tbG := tb_2 (List.mem_of_getElem? (i := 69) rfl) rfl
theorem lk_X7_25 : Cond.fieldLink RX7 25 "LeadNames$Ring" "size" "I" ∈ tbG := tb_2 (List.mem_of_getElem? (i := 70) rfl) rfl
theorem lk_X10_149 : Cond.fieldLink RX10 149 "LeadNames$Ring" "size" "I" ∈ tbG := tb_2 (List.mem_of_getElem? (i := 71) rfl) rfl
theorem lk_X2_115 : Cond.fieldLink RX2 115 "LeadNames$Ring" "size" "I" ∈ tbG := tb_2 (List.mem_of_getElem? (i := 72) rfl) rfl
theorem lk_X2_53 : Cond.classLink RX2 53 RX0 ∈ tbG := tb_2 (List.mem_of_getElem? (i := 84) rfl) rfl
theorem ins_X0 : Cond.instantiable RX0 3 ∈ tbG := tb_2 (List.mem_of_getElem? (i := 85) rfl) rfl
theorem lk_X2_55 : Cond.methodLink RX2 55 yX0_init ∈ tbG := tb_2 (List.mem_of_getElem? (i := 86) rfl) rfl
theorem im_X0_init : Cond.instanceMethod yX0_init ∈ tbG := tb_2 (List.mem_of_getElem? (i := 87) rfl) rfl
theorem cd_X0_init : Cond.code yX0_init cX0_init 1 none ∈ tbG := tb_2 (List.mem_of_getElem? (i := 88) rfl) rfl
theorem lk_X0_1 : Cond.methodLink RX0 1 objectInit ∈ tbG := tb_2 (List.mem_of_getElem? (i := 89) rfl) rfl
theorem lk_X0_9 : Cond.fieldLink RX0 9 "LeadNames$Abacus" "stack" "[I" ∈ tbG := tb_2 (List.mem_of_getElem? (i := 90) rfl) rfl
theorem lk_X0_13 : Cond.fieldLink RX0 13 "LeadNames$Abacus" "facts" "[I" ∈ tbG := tb_2 (List.mem_of_getElem? (i := 91) rfl) rfl
theorem lk_X0_16 : Cond.fieldLink RX0 16 "LeadNames$Abacus" "size" "I" ∈ tbG := tb_2 (List.mem_of_getElem? (i := 92) rfl) rfl
theorem lk_X2_9 : Cond.fieldLink RX2 9 "LeadNames$Coats" "land" "LLeadNames$Land;" ∈ tbG := tb_2 (List.mem_of_getElem? (i := 100) rfl) rfl
theorem lk_X3_28 : Cond.fieldLink RX3 28 "LeadNames$Coats" "land" "LLeadNames$Land;" ∈ tbG := tb_2 (List.mem_of_getElem? (i := 101) rfl) rfl
theorem lk_X1_85 : Cond.fieldLink RX1 85 "LeadNames$Coats" "land" "LLeadNames$Land;" ∈ tbG := tb_2 (List.mem_of_getElem? (i := 102) rfl) rfl
theorem lk_X10_106 : Cond.fieldLink RX10 106 "LeadNames$Coats" "land" "LLeadNames$Land;" ∈ tbG := tb_2 (List.mem_of_getElem? (i := 103) rfl) rfl
theorem lk_X2_15 : Cond.fieldLink RX2 15 "LeadNames$Coats" "year" "I" ∈ tbG := tb_2 (List.mem_of_getElem? (i := 104) rfl) rfl
theorem lk_X3_19 : Cond.fieldLink RX3 19 "LeadNames$Coats" "year" "I" ∈ tbG := tb_2 (List.mem_of_getElem? (i := 105) rfl) rfl
theorem lk_X1_49 : Cond.fieldLink RX1 49 "LeadNames$Coats" "year" "I" ∈ tbG := tb_2 (List.mem_of_getElem? (i := 106) rfl) rfl
theorem lk_X10_136 : Cond.fieldLink RX10 136 "LeadNames$Coats" "year" "I" ∈ tbG := tb_2 (List.mem_of_getElem? (i := 107) rfl) rfl
theorem lk_X2_19 : Cond.fieldLink RX2 19 "LeadNames$Coats" "river" "I" ∈ tbG := tb_2 (List.mem_of_getElem? (i := 108) rfl) rfl
theorem lk_X3_51 : Cond.fieldLink RX3 51 "LeadNames$Coats" "river" "I" ∈ tbG := tb_2 (List.mem_of_getElem? (i := 109) rfl) rfl
theorem lk_X1_140 : Cond.fieldLink RX1 140 "LeadNames$Coats" "river" "I" ∈ tbG := tb_2 (List.mem_of_getElem? (i := 110) rfl) rfl
theorem lk_X10_228 : Cond.fieldLink RX10 228 "LeadNames$Coats" "river" "I" ∈ tbG := tb_2 (List.mem_of_getElem? (i := 111) rfl) rfl
theorem lk_X2_22 : Cond.fieldLink RX2 22 "LeadNames$Coats" "bulletCount" "I" ∈ tbG := tb_2 (List.mem_of_getElem? (i := 112) rfl) rfl
theorem lk_X3_54 : Cond.fieldLink RX3 54 "LeadNames$Coats" "bulletCount" "I" ∈ tbG := tb_2 (List.mem_of_getElem? (i := 113) rfl) rfl
theorem lk_X10_142 : Cond.fieldLink RX10 142 "LeadNames$Coats" "bulletCount" "I" ∈ tbG := tb_2 (List.mem_of_getElem? (i := 114) rfl) rfl
theorem lk_X1_143 : Cond.fieldLink RX1 143 "LeadNames$Coats" "bulletCount" "I" ∈ tbG := tb_2 (List.mem_of_getElem? (i := 115) rfl) rfl
theorem lk_X2_25 : Cond.fieldLink RX2 25 "LeadNames$Coats" "titles" "[I" ∈ tbG := tb_2 (List.mem_of_getElem? (i := 116) rfl) rfl
theorem lk_X3_117 : Cond.fieldLink RX3 117 "LeadNames$Coats" "titles" "[I" ∈ tbG := tb_2 (List.mem_of_getElem? (i := 117) rfl) rfl
theorem lk_X2_29 : Cond.fieldLink RX2 29 "LeadNames$Coats" "loose" "[I" ∈ tbG := tb_2 (List.mem_of_getElem? (i := 118) rfl) rfl
theorem lk_X2_32 : Cond.fieldLink RX2 32 "LeadNames$Coats" "bullets" "[I" ∈ tbG := tb_2 (List.mem_of_getElem? (i := 119) rfl) rfl
theorem lk_X3_57 : Cond.fieldLink RX3 57 "LeadNames$Coats" "bullets" "[I" ∈ tbG := tb_2 (List.mem_of_getElem? (i := 120) rfl) rfl
theorem lk_X1_146 : Cond.fieldLink RX1 146 "LeadNames$Coats" "bullets" "[I" ∈ tbG := tb_2 (List.mem_of_getElem? (i := 121) rfl) rfl
theorem lk_X10_293 : Cond.fieldLink RX10 293 "LeadNames$Coats" "bullets" "[I" ∈ tbG := tb_2 (List.mem_of_getElem? (i := 122) rfl) rfl
theorem lk_X2_35 : Cond.fieldLink RX2 35 "LeadNames$Coats" "since" "[I" ∈ tbG := tb_2 (List.mem_of_getElem? (i := 123) rfl) rfl
theorem lk_X2_38 : Cond.fieldLink RX2 38 "LeadNames$Coats" "ownLetters" "[I" ∈ tbG := tb_2 (List.mem_of_getElem? (i := 124) rfl) rfl
theorem lk_X2_41 : Cond.fieldLink RX2 41 "LeadNames$Coats" "otherLetters" "[I" ∈ tbG := tb_2 (List.mem_of_getElem? (i := 125) rfl) rfl
theorem lk_X2_49 : Cond.fieldLink RX2 49 "LeadNames$Coats" "spans" "LLeadNames$Ring;" ∈ tbG := tb_2 (List.mem_of_getElem? (i := 126) rfl) rfl
theorem lk_X10_285 : Cond.fieldLink RX10 285 "LeadNames$Coats" "spans" "LLeadNames$Ring;" ∈ tbG := tb_2 (List.mem_of_getElem? (i := 127) rfl) rfl
theorem lk_X2_56 : Cond.fieldLink RX2 56 "LeadNames$Coats" "abacus" "LLeadNames$Abacus;" ∈ tbG := tb_2 (List.mem_of_getElem? (i := 128) rfl) rfl
theorem lk_X10_57 : Cond.classLink RX10 57 RX1 ∈ tbG := tb_2 (List.mem_of_getElem? (i := 154) rfl) rfl
theorem ins_X1 : Cond.instantiable RX1 5 ∈ tbG := tb_2 (List.mem_of_getElem? (i := 155) rfl) rfl
theorem lk_X10_59 : Cond.methodLink RX10 59 yX1_init ∈ tbG := tb_2 (List.mem_of_getElem? (i := 156) rfl) rfl
theorem im_X1_init : Cond.instanceMethod yX1_init ∈ tbG := tb_2 (List.mem_of_getElem? (i := 157) rfl) rfl
theorem cd_X1_init : Cond.code yX1_init cX1_init 3 none ∈ tbG := tb_2 (List.mem_of_getElem? (i := 158) rfl) rfl
theorem lk_X1_3 : Cond.methodLink RX1 3 objectInit ∈ tbG := tb_2 (List.mem_of_getElem? (i := 159) rfl) rfl
theorem lk_X1_19 : Cond.classLink RX1 19 RX7 ∈ tbG := tb_2 (List.mem_of_getElem? (i := 160) rfl) rfl
theorem lk_X1_21 : Cond.methodLink RX1 21 yX7_init ∈ tbG := tb_2 (List.mem_of_getElem? (i := 161) rfl) rfl
theorem lk_X1_28 : Cond.classLink RX1 28 RX8 ∈ tbG := tb_2 (List.mem_of_getElem? (i := 162) rfl) rfl
theorem lk_X1_30 : Cond.methodLink RX1 30 yX8_init ∈ tbG := tb_2 (List.mem_of_getElem? (i := 163) rfl) rfl
theorem lk_X1_9 : Cond.fieldLink RX1 9 "LeadNames$Acts" "coats" "LLeadNames$Coats;" ∈ tbG := tb_2 (List.mem_of_getElem? (i := 164) rfl) rfl
theorem lk_X1_15 : Cond.fieldLink RX1 15 "LeadNames$Acts" "search" "LLeadNames$Search;" ∈ tbG := tb_2 (List.mem_of_getElem? (i := 165) rfl) rfl
theorem lk_X1_24 : Cond.fieldLink RX1 24 "LeadNames$Acts" "moves" "LLeadNames$Ring;" ∈ tbG := tb_2 (List.mem_of_getElem? (i := 166) rfl) rfl
theorem lk_X10_145 : Cond.fieldLink RX10 145 "LeadNames$Acts" "moves" "LLeadNames$Ring;" ∈ tbG := tb_2 (List.mem_of_getElem? (i := 167) rfl) rfl
theorem lk_X1_31 : Cond.fieldLink RX1 31 "LeadNames$Acts" "loans" "LLeadNames$Roll;" ∈ tbG := tb_2 (List.mem_of_getElem? (i := 168) rfl) rfl
theorem lk_X10_139 : Cond.fieldLink RX10 139 "LeadNames$Acts" "loans" "LLeadNames$Roll;" ∈ tbG := tb_2 (List.mem_of_getElem? (i := 169) rfl) rfl
theorem lk_X1_35 : Cond.fieldLink RX1 35 "LeadNames$Acts" "seed" "J" ∈ tbG := tb_2 (List.mem_of_getElem? (i := 170) rfl) rfl
theorem lk_X10_66 : Cond.classLink RX10 66 RX3 ∈ tbG := tb_2 (List.mem_of_getElem? (i := 182) rfl) rfl
theorem ins_X3 : Cond.instantiable RX3 2 ∈ tbG := tb_2 (List.mem_of_getElem? (i := 183) rfl) rfl
theorem lk_X10_68 : Cond.methodLink RX10 68 yX3_init ∈ tbG := tb_2 (List.mem_of_getElem? (i := 184) rfl) rfl
theorem im_X3_init : Cond.instanceMethod yX3_init ∈ tbG := tb_2 (List.mem_of_getElem? (i := 185) rfl) rfl
theorem cd_X3_init : Cond.code yX3_init cX3_init 1 none ∈ tbG := tb_2 (List.mem_of_getElem? (i := 186) rfl) rfl
theorem lk_X3_5 : Cond.methodLink RX3 5 objectInit ∈ tbG := tb_2 (List.mem_of_getElem? (i := 187) rfl) rfl
theorem lk_X3_11 : Cond.fieldLink RX3 11 "LeadNames$Image" "bytes" "[I" ∈ tbG := tb_2 (List.mem_of_getElem? (i := 188) rfl) rfl
theorem lk_X10_329 : Cond.fieldLink RX10 329 "LeadNames$Image" "bytes" "[I" ∈ tbG := tb_2 (List.mem_of_getElem? (i := 189) rfl) rfl
theorem lk_X3_15 : Cond.fieldLink RX3 15 "LeadNames$Image" "length" "I" ∈ tbG := tb_2 (List.mem_of_getElem? (i := 190) rfl) rfl
theorem lk_X10_326 : Cond.fieldLink RX10 326 "LeadNames$Image" "length" "I" ∈ tbG := tb_2 (List.mem_of_getElem? (i := 191) rfl) rfl
theorem lk_X10_9 : Cond.fieldLink RX10 9 "LeadNames" "tape" "[I" ∈ tbG := tb_2 (List.mem_of_getElem? (i := 197) rfl) rfl
theorem lk_X10_13 : Cond.fieldLink RX10 13 "LeadNames" "refusals" "[I" ∈ tbG := tb_2 (List.mem_of_getElem? (i := 198) rfl) rfl
theorem lk_X10_21 : Cond.fieldLink RX10 21 "LeadNames" "reader" "LLeadNames$Reader;" ∈ tbG := tb_2 (List.mem_of_getElem? (i := 199) rfl) rfl
theorem lk_X10_37 : Cond.fieldLink RX10 37 "LeadNames" "parser" "LLeadNames$Parser;" ∈ tbG := tb_2 (List.mem_of_getElem? (i := 200) rfl) rfl
theorem lk_X10_53 : Cond.fieldLink RX10 53 "LeadNames" "coats" "LLeadNames$Coats;" ∈ tbG := tb_2 (List.mem_of_getElem? (i := 201) rfl) rfl
theorem lk_X10_62 : Cond.fieldLink RX10 62 "LeadNames" "acts" "LLeadNames$Acts;" ∈ tbG := tb_2 (List.mem_of_getElem? (i := 202) rfl) rfl
theorem lk_X10_44 : Cond.fieldLink RX10 44 "LeadNames" "search" "LLeadNames$Search;" ∈ tbG := tb_2 (List.mem_of_getElem? (i := 203) rfl) rfl
theorem lk_X10_69 : Cond.fieldLink RX10 69 "LeadNames" "image" "LLeadNames$Image;" ∈ tbG := tb_2 (List.mem_of_getElem? (i := 204) rfl) rfl
theorem lk_X10_28 : Cond.fieldLink RX10 28 "LeadNames" "spare" "LLeadNames$Land;" ∈ tbG := tb_2 (List.mem_of_getElem? (i := 205) rfl) rfl
theorem lk_X10_73 : Cond.fieldLink RX10 73 "LeadNames" "tapeLength" "I" ∈ tbG := tb_2 (List.mem_of_getElem? (i := 206) rfl) rfl
theorem lk_X10_77 : Cond.fieldLink RX10 77 "LeadNames" "fault" "I" ∈ tbG := tb_2 (List.mem_of_getElem? (i := 207) rfl) rfl
theorem lk_X10_80 : Cond.fieldLink RX10 80 "LeadNames" "faultPlace" "I" ∈ tbG := tb_2 (List.mem_of_getElem? (i := 208) rfl) rfl
theorem lk_L_13 : Cond.methodLink RL 13 yX10_feed ∈ tbG := tb_2 (List.mem_of_getElem? (i := 234) rfl) rfl
theorem im_X10_feed : Cond.instanceMethod yX10_feed ∈ tbG := tb_2 (List.mem_of_getElem? (i := 235) rfl) rfl
theorem se_X10_feed : Cond.selects RX10 yX10_feed yX10_feed ∈ tbG := tb_2 (List.mem_of_getElem? (i := 236) rfl) rfl
theorem cd_X10_feed : Cond.code yX10_feed cX10_feed 6 (some .int) ∈ tbG := tb_2 (List.mem_of_getElem? (i := 237) rfl) rfl
theorem lk_X10_83 : Cond.methodLink RX10 83 yX10_counted ∈ tbG := tb_2 (List.mem_of_getElem? (i := 238) rfl) rfl
theorem im_X10_counted : Cond.instanceMethod yX10_counted ∈ tbG := tb_3 (List.mem_of_getElem? (i := 0) rfl) rfl
theorem cd_X10_counted : Cond.code yX10_counted cX10_counted 3 (some .int) ∈ tbG := tb_3 (List.mem_of_getElem? (i := 1) rfl) rfl
theorem lk_X10_87 : Cond.methodLink RX10 87 yX10_putOnTape ∈ tbG := tb_3 (List.mem_of_getElem? (i := 2) rfl) rfl
theorem im_X10_putOnTape : Cond.instanceMethod yX10_putOnTape ∈ tbG := tb_3 (List.mem_of_getElem? (i := 4) rfl) rfl
theorem cd_X10_putOnTape : Cond.code yX10_putOnTape cX10_putOnTape 3 none ∈ tbG := tb_3 (List.mem_of_getElem? (i := 5) rfl) rfl
theorem lk_L_18 : Cond.methodLink RL 18 yX10_end ∈ tbG := tb_3 (List.mem_of_getElem? (i := 6) rfl) rfl
theorem im_X10_end : Cond.instanceMethod yX10_end ∈ tbG := tb_3 (List.mem_of_getElem? (i := 7) rfl) rfl
theorem se_X10_end : Cond.selects RX10 yX10_end yX10_end ∈ tbG := tb_3 (List.mem_of_getElem? (i := 8) rfl) rfl
theorem cd_X10_end : Cond.code yX10_end cX10_end 2 (some .boolean) ∈ tbG := tb_3 (List.mem_of_getElem? (i := 9) rfl) rfl
theorem lk_X10_91 : Cond.methodLink RX10 91 yX10_granted ∈ tbG := tb_3 (List.mem_of_getElem? (i := 10) rfl) rfl
theorem im_X10_granted : Cond.instanceMethod yX10_granted ∈ tbG := tb_3 (List.mem_of_getElem? (i := 12) rfl) rfl
theorem cd_X10_granted : Cond.code yX10_granted cX10_granted 3 (some .boolean) ∈ tbG := tb_3 (List.mem_of_getElem? (i := 13) rfl) rfl
theorem lk_L_23 : Cond.methodLink RL 23 yX10_land ∈ tbG := tb_3 (List.mem_of_getElem? (i := 14) rfl) rfl
theorem im_X10_land : Cond.instanceMethod yX10_land ∈ tbG := tb_3 (List.mem_of_getElem? (i := 15) rfl) rfl
theorem se_X10_land : Cond.selects RX10 yX10_land yX10_land ∈ tbG := tb_3 (List.mem_of_getElem? (i := 16) rfl) rfl
theorem cd_X10_land : Cond.code yX10_land cX10_land 3 (some .int) ∈ tbG := tb_3 (List.mem_of_getElem? (i := 17) rfl) rfl
theorem lk_X10_95 : Cond.methodLink RX10 95 yX6_start ∈ tbG := tb_3 (List.mem_of_getElem? (i := 18) rfl) rfl
theorem im_X6_start : Cond.instanceMethod yX6_start ∈ tbG := tb_3 (List.mem_of_getElem? (i := 19) rfl) rfl
theorem se_X6_start : Cond.selects RX6 yX6_start yX6_start ∈ tbG := tb_3 (List.mem_of_getElem? (i := 20) rfl) rfl
theorem cd_X6_start : Cond.code yX6_start cX6_start 2 none ∈ tbG := tb_3 (List.mem_of_getElem? (i := 21) rfl) rfl
theorem lk_X6_33 : Cond.methodLink RX6 33 yJ9_min_7cf53 ∈ tbG := tb_3 (List.mem_of_getElem? (i := 22) rfl) rfl
theorem sm_J9_min_7cf53 : Cond.static yJ9_min_7cf53 ∈ tbG := tb_3 (List.mem_of_getElem? (i := 23) rfl) rfl
theorem cd_J9_min_7cf53 : Cond.code yJ9_min_7cf53 cJ9_min_7cf53 2 (some .int) ∈ tbG := tb_3 (List.mem_of_getElem? (i := 24) rfl) rfl
theorem lk_X6_39 : Cond.methodLink RX6 39 yJ9_max_7cf53 ∈ tbG := tb_3 (List.mem_of_getElem? (i := 25) rfl) rfl
theorem sm_J9_max_7cf53 : Cond.static yJ9_max_7cf53 ∈ tbG := tb_3 (List.mem_of_getElem? (i := 26) rfl) rfl
theorem cd_J9_max_7cf53 : Cond.code yJ9_max_7cf53 cJ9_max_7cf53 2 (some .int) ∈ tbG := tb_3 (List.mem_of_getElem? (i := 27) rfl) rfl
theorem lk_X10_98 : Cond.methodLink RX10 98 yX5_readLand ∈ tbG := tb_3 (List.mem_of_getElem? (i := 28) rfl) rfl
theorem im_X5_readLand : Cond.instanceMethod yX5_readLand ∈ tbG := tb_3 (List.mem_of_getElem? (i := 29) rfl) rfl
theorem se_X5_readLand : Cond.selects RX5 yX5_readLand yX5_readLand ∈ tbG := tb_3 (List.mem_of_getElem? (i := 30) rfl) rfl
theorem cd_X5_readLand : Cond.code yX5_readLand cX5_readLand 4 (some .int) ∈ tbG := tb_3 (List.mem_of_getElem? (i := 31) rfl) rfl
theorem lk_X5_23 : Cond.methodLink RX5 23 yX4_clear ∈ tbG := tb_3 (List.mem_of_getElem? (i := 32) rfl) rfl
theorem im_X4_clear : Cond.instanceMethod yX4_clear ∈ tbG := tb_3 (List.mem_of_getElem? (i := 33) rfl) rfl
theorem se_X4_clear : Cond.selects RX4 yX4_clear yX4_clear ∈ tbG := tb_3 (List.mem_of_getElem? (i := 34) rfl) rfl
theorem cd_X4_clear : Cond.code yX4_clear cX4_clear 1 none ∈ tbG := tb_3 (List.mem_of_getElem? (i := 35) rfl) rfl
theorem lk_X5_28 : Cond.methodLink RX5 28 yX6_look ∈ tbG := tb_3 (List.mem_of_getElem? (i := 36) rfl) rfl
theorem im_X6_look : Cond.instanceMethod yX6_look ∈ tbG := tb_3 (List.mem_of_getElem? (i := 37) rfl) rfl
theorem se_X6_look : Cond.selects RX6 yX6_look yX6_look ∈ tbG := tb_3 (List.mem_of_getElem? (i := 38) rfl) rfl
theorem cd_X6_look : Cond.code yX6_look cX6_look 3 (some .int) ∈ tbG := tb_3 (List.mem_of_getElem? (i := 39) rfl) rfl
theorem lk_X6_68 : Cond.methodLink RX6 68 yX6_kindOf ∈ tbG := tb_3 (List.mem_of_getElem? (i := 40) rfl) rfl
theorem sm_X6_kindOf : Cond.static yX6_kindOf ∈ tbG := tb_3 (List.mem_of_getElem? (i := 41) rfl) rfl
theorem cd_X6_kindOf : Cond.code yX6_kindOf cX6_kindOf 1 (some .int) ∈ tbG := tb_3 (List.mem_of_getElem? (i := 42) rfl) rfl
theorem lk_X6_72 : Cond.methodLink RX6 72 yX6_readWord ∈ tbG := tb_3 (List.mem_of_getElem? (i := 43) rfl) rfl
theorem im_X6_readWord : Cond.instanceMethod yX6_readWord ∈ tbG := tb_3 (List.mem_of_getElem? (i := 45) rfl) rfl
theorem cd_X6_readWord : Cond.code yX6_readWord cX6_readWord 2 (some .boolean) ∈ tbG := tb_3 (List.mem_of_getElem? (i := 46) rfl) rfl
theorem lk_X6_76 : Cond.methodLink RX6 76 yX6_readNumber ∈ tbG := tb_3 (List.mem_of_getElem? (i := 47) rfl) rfl
theorem im_X6_readNumber : Cond.instanceMethod yX6_readNumber ∈ tbG := tb_3 (List.mem_of_getElem? (i := 49) rfl) rfl
theorem cd_X6_readNumber : Cond.code yX6_readNumber cX6_readNumber 1 (some .boolean) ∈ tbG := tb_3 (List.mem_of_getElem? (i := 50) rfl) rfl
theorem lk_X6_61 : Cond.methodLink RX6 61 yX6_fail ∈ tbG := tb_3 (List.mem_of_getElem? (i := 51) rfl) rfl
theorem im_X6_fail : Cond.instanceMethod yX6_fail ∈ tbG := tb_3 (List.mem_of_getElem? (i := 52) rfl) rfl
theorem se_X6_fail : Cond.selects RX6 yX6_fail yX6_fail ∈ tbG := tb_3 (List.mem_of_getElem? (i := 53) rfl) rfl
theorem cd_X6_fail : Cond.code yX6_fail cX6_fail 3 (some .boolean) ∈ tbG := tb_3 (List.mem_of_getElem? (i := 54) rfl) rfl
theorem lk_X5_34 : Cond.methodLink RX5 34 yX5_letterOunces ∈ tbG := tb_3 (List.mem_of_getElem? (i := 55) rfl) rfl
theorem im_X5_letterOunces : Cond.instanceMethod yX5_letterOunces ∈ tbG := tb_3 (List.mem_of_getElem? (i := 57) rfl) rfl
theorem cd_X5_letterOunces : Cond.code yX5_letterOunces cX5_letterOunces 2 (some .boolean) ∈ tbG := tb_3 (List.mem_of_getElem? (i := 58) rfl) rfl
theorem lk_X5_72 : Cond.methodLink RX5 72 yX6_skip ∈ tbG := tb_3 (List.mem_of_getElem? (i := 59) rfl) rfl
theorem im_X6_skip : Cond.instanceMethod yX6_skip ∈ tbG := tb_3 (List.mem_of_getElem? (i := 60) rfl) rfl
theorem se_X6_skip : Cond.selects RX6 yX6_skip yX6_skip ∈ tbG := tb_3 (List.mem_of_getElem? (i := 61) rfl) rfl
theorem cd_X6_skip : Cond.code yX6_skip cX6_skip 1 none ∈ tbG := tb_3 (List.mem_of_getElem? (i := 62) rfl) rfl
theorem lk_X5_75 : Cond.methodLink RX5 75 yX5_oneLetter ∈ tbG := tb_3 (List.mem_of_getElem? (i := 63) rfl) rfl
theorem im_X5_oneLetter : Cond.instanceMethod yX5_oneLetter ∈ tbG := tb_3 (List.mem_of_getElem? (i := 65) rfl) rfl
theorem cd_X5_oneLetter : Cond.code yX5_oneLetter cX5_oneLetter 2 (some .boolean) ∈ tbG := tb_3 (List.mem_of_getElem? (i := 66) rfl) rfl
theorem lk_X5_62 : Cond.methodLink RX5 62 yX6_failHere ∈ tbG := tb_3 (List.mem_of_getElem? (i := 67) rfl) rfl
theorem im_X6_failHere : Cond.instanceMethod yX6_failHere ∈ tbG := tb_3 (List.mem_of_getElem? (i := 68) rfl) rfl
theorem se_X6_failHere : Cond.selects RX6 yX6_failHere yX6_failHere ∈ tbG := tb_3 (List.mem_of_getElem? (i := 69) rfl) rfl
theorem cd_X6_failHere : Cond.code yX6_failHere cX6_failHere 2 (some .boolean) ∈ tbG := tb_3 (List.mem_of_getElem? (i := 70) rfl) rfl
theorem lk_X5_160 : Cond.methodLink RX5 160 yX8_letterOf ∈ tbG := tb_3 (List.mem_of_getElem? (i := 71) rfl) rfl
theorem sm_X8_letterOf : Cond.static yX8_letterOf ∈ tbG := tb_3 (List.mem_of_getElem? (i := 72) rfl) rfl
theorem cd_X8_letterOf : Cond.code yX8_letterOf cX8_letterOf 2 (some .int) ∈ tbG := tb_3 (List.mem_of_getElem? (i := 73) rfl) rfl
theorem lk_X5_163 : Cond.methodLink RX5 163 yX8_lengthOf ∈ tbG := tb_3 (List.mem_of_getElem? (i := 74) rfl) rfl
theorem sm_X8_lengthOf : Cond.static yX8_lengthOf ∈ tbG := tb_3 (List.mem_of_getElem? (i := 75) rfl) rfl
theorem cd_X8_lengthOf : Cond.code yX8_lengthOf cX8_lengthOf 2 (some .int) ∈ tbG := tb_3 (List.mem_of_getElem? (i := 76) rfl) rfl
theorem lk_X5_78 : Cond.methodLink RX5 78 yX5_number ∈ tbG := tb_3 (List.mem_of_getElem? (i := 77) rfl) rfl
theorem im_X5_number : Cond.instanceMethod yX5_number ∈ tbG := tb_3 (List.mem_of_getElem? (i := 79) rfl) rfl
theorem cd_X5_number : Cond.code yX5_number cX5_number 3 (some .boolean) ∈ tbG := tb_3 (List.mem_of_getElem? (i := 80) rfl) rfl
theorem lk_X5_38 : Cond.methodLink RX5 38 yX5_newPerson ∈ tbG := tb_3 (List.mem_of_getElem? (i := 81) rfl) rfl
theorem im_X5_newPerson : Cond.instanceMethod yX5_newPerson ∈ tbG := tb_3 (List.mem_of_getElem? (i := 83) rfl) rfl
theorem cd_X5_newPerson : Cond.code yX5_newPerson cX5_newPerson 1 (some .boolean) ∈ tbG := tb_3 (List.mem_of_getElem? (i := 84) rfl) rfl
theorem lk_X5_96 : Cond.methodLink RX5 96 yX5_begin ∈ tbG := tb_3 (List.mem_of_getElem? (i := 85) rfl) rfl
theorem im_X5_begin : Cond.instanceMethod yX5_begin ∈ tbG := tb_3 (List.mem_of_getElem? (i := 87) rfl) rfl
theorem cd_X5_begin : Cond.code yX5_begin cX5_begin 2 (some .boolean) ∈ tbG := tb_3 (List.mem_of_getElem? (i := 88) rfl) rfl
theorem lk_X5_157 : Cond.methodLink RX5 157 yX8_isFull ∈ tbG := tb_3 (List.mem_of_getElem? (i := 89) rfl) rfl
theorem im_X8_isFull : Cond.instanceMethod yX8_isFull ∈ tbG := tb_3 (List.mem_of_getElem? (i := 90) rfl) rfl
theorem se_X8_isFull : Cond.selects RX8 yX8_isFull yX8_isFull ∈ tbG := tb_3 (List.mem_of_getElem? (i := 91) rfl) rfl
theorem cd_X8_isFull : Cond.code yX8_isFull cX8_isFull 1 (some .boolean) ∈ tbG := tb_3 (List.mem_of_getElem? (i := 92) rfl) rfl
theorem lk_X5_100 : Cond.methodLink RX5 100 yX5_newName ∈ tbG := tb_3 (List.mem_of_getElem? (i := 93) rfl) rfl
theorem im_X5_newName : Cond.instanceMethod yX5_newName ∈ tbG := tb_3 (List.mem_of_getElem? (i := 95) rfl) rfl
theorem cd_X5_newName : Cond.code yX5_newName cX5_newName 2 (some .boolean) ∈ tbG := tb_3 (List.mem_of_getElem? (i := 96) rfl) rfl
theorem lk_X5_166 : Cond.methodLink RX5 166 yX4_isNamed ∈ tbG := tb_3 (List.mem_of_getElem? (i := 97) rfl) rfl
theorem im_X4_isNamed : Cond.instanceMethod yX4_isNamed ∈ tbG := tb_3 (List.mem_of_getElem? (i := 98) rfl) rfl
theorem se_X4_isNamed : Cond.selects RX4 yX4_isNamed yX4_isNamed ∈ tbG := tb_3 (List.mem_of_getElem? (i := 99) rfl) rfl
theorem cd_X4_isNamed : Cond.code yX4_isNamed cX4_isNamed 2 (some .boolean) ∈ tbG := tb_3 (List.mem_of_getElem? (i := 100) rfl) rfl
theorem lk_X4_61 : Cond.methodLink RX4 61 yX8_find ∈ tbG := tb_3 (List.mem_of_getElem? (i := 101) rfl) rfl
theorem im_X8_find : Cond.instanceMethod yX8_find ∈ tbG := tb_3 (List.mem_of_getElem? (i := 102) rfl) rfl
theorem se_X8_find : Cond.selects RX8 yX8_find yX8_find ∈ tbG := tb_3 (List.mem_of_getElem? (i := 103) rfl) rfl
theorem cd_X8_find : Cond.code yX8_find cX8_find 3 (some .int) ∈ tbG := tb_3 (List.mem_of_getElem? (i := 104) rfl) rfl
theorem lk_X5_138 : Cond.methodLink RX5 138 yX8_add ∈ tbG := tb_3 (List.mem_of_getElem? (i := 105) rfl) rfl
theorem im_X8_add : Cond.instanceMethod yX8_add ∈ tbG := tb_3 (List.mem_of_getElem? (i := 106) rfl) rfl
theorem se_X8_add : Cond.selects RX8 yX8_add yX8_add ∈ tbG := tb_3 (List.mem_of_getElem? (i := 107) rfl) rfl
theorem cd_X8_add : Cond.code yX8_add cX8_add 2 (some .int) ∈ tbG := tb_3 (List.mem_of_getElem? (i := 108) rfl) rfl
theorem lk_X8_32 : Cond.methodLink RX8 32 yX8_isFull ∈ tbG := tb_3 (List.mem_of_getElem? (i := 109) rfl) rfl
theorem lk_X5_66 : Cond.methodLink RX5 66 yX5_token ∈ tbG := tb_3 (List.mem_of_getElem? (i := 110) rfl) rfl
theorem im_X5_token : Cond.instanceMethod yX5_token ∈ tbG := tb_3 (List.mem_of_getElem? (i := 112) rfl) rfl
theorem cd_X5_token : Cond.code yX5_token cX5_token 2 (some .boolean) ∈ tbG := tb_3 (List.mem_of_getElem? (i := 113) rfl) rfl
theorem lk_X5_103 : Cond.methodLink RX5 103 yX5_keep ∈ tbG := tb_3 (List.mem_of_getElem? (i := 114) rfl) rfl
theorem im_X5_keep : Cond.instanceMethod yX5_keep ∈ tbG := tb_3 (List.mem_of_getElem? (i := 116) rfl) rfl
theorem cd_X5_keep : Cond.code yX5_keep cX5_keep 3 (some .boolean) ∈ tbG := tb_3 (List.mem_of_getElem? (i := 117) rfl) rfl
theorem lk_X5_147 : Cond.methodLink RX5 147 yX8_put ∈ tbG := tb_3 (List.mem_of_getElem? (i := 118) rfl) rfl
theorem im_X8_put : Cond.instanceMethod yX8_put ∈ tbG := tb_3 (List.mem_of_getElem? (i := 119) rfl) rfl
theorem se_X8_put : Cond.selects RX8 yX8_put yX8_put ∈ tbG := tb_3 (List.mem_of_getElem? (i := 120) rfl) rfl
theorem cd_X8_put : Cond.code yX8_put cX8_put 4 none ∈ tbG := tb_3 (List.mem_of_getElem? (i := 121) rfl) rfl
theorem lk_X8_28 : Cond.methodLink RX8 28 yX8_holds ∈ tbG := tb_3 (List.mem_of_getElem? (i := 122) rfl) rfl
theorem im_X8_holds : Cond.instanceMethod yX8_holds ∈ tbG := tb_3 (List.mem_of_getElem? (i := 123) rfl) rfl
theorem se_X8_holds : Cond.selects RX8 yX8_holds yX8_holds ∈ tbG := tb_3 (List.mem_of_getElem? (i := 124) rfl) rfl
theorem cd_X8_holds : Cond.code yX8_holds cX8_holds 2 (some .boolean) ∈ tbG := tb_3 (List.mem_of_getElem? (i := 125) rfl) rfl
theorem lk_X5_41 : Cond.methodLink RX5 41 yX5_newTitle ∈ tbG := tb_3 (List.mem_of_getElem? (i := 126) rfl) rfl
theorem im_X5_newTitle : Cond.instanceMethod yX5_newTitle ∈ tbG := tb_3 (List.mem_of_getElem? (i := 128) rfl) rfl
theorem cd_X5_newTitle : Cond.code yX5_newTitle cX5_newTitle 1 (some .boolean) ∈ tbG := tb_3 (List.mem_of_getElem? (i := 129) rfl) rfl
theorem lk_X5_44 : Cond.methodLink RX5 44 yX5_titleHad ∈ tbG := tb_3 (List.mem_of_getElem? (i := 130) rfl) rfl
theorem im_X5_titleHad : Cond.instanceMethod yX5_titleHad ∈ tbG := tb_3 (List.mem_of_getElem? (i := 132) rfl) rfl
theorem cd_X5_titleHad : Cond.code yX5_titleHad cX5_titleHad 3 (some .boolean) ∈ tbG := tb_3 (List.mem_of_getElem? (i := 133) rfl) rfl
theorem lk_X5_113 : Cond.methodLink RX5 113 yX5_knownName ∈ tbG := tb_3 (List.mem_of_getElem? (i := 134) rfl) rfl
theorem im_X5_knownName : Cond.instanceMethod yX5_knownName ∈ tbG := tb_3 (List.mem_of_getElem? (i := 136) rfl) rfl
theorem cd_X5_knownName : Cond.code yX5_knownName cX5_knownName 2 (some .boolean) ∈ tbG := tb_3 (List.mem_of_getElem? (i := 137) rfl) rfl
theorem lk_X5_119 : Cond.methodLink RX5 119 yX8_find ∈ tbG := tb_3 (List.mem_of_getElem? (i := 138) rfl) rfl
theorem lk_X5_47 : Cond.methodLink RX5 47 yX5_heapLetters ∈ tbG := tb_3 (List.mem_of_getElem? (i := 139) rfl) rfl
theorem im_X5_heapLetters : Cond.instanceMethod yX5_heapLetters ∈ tbG := tb_3 (List.mem_of_getElem? (i := 141) rfl) rfl
theorem cd_X5_heapLetters : Cond.code yX5_heapLetters cX5_heapLetters 2 (some .boolean) ∈ tbG := tb_3 (List.mem_of_getElem? (i := 142) rfl) rfl
theorem lk_X5_50 : Cond.methodLink RX5 50 yX5_newAge ∈ tbG := tb_3 (List.mem_of_getElem? (i := 143) rfl) rfl
theorem im_X5_newAge : Cond.instanceMethod yX5_newAge ∈ tbG := tb_3 (List.mem_of_getElem? (i := 145) rfl) rfl
theorem cd_X5_newAge : Cond.code yX5_newAge cX5_newAge 2 (some .boolean) ∈ tbG := tb_3 (List.mem_of_getElem? (i := 146) rfl) rfl
theorem lk_X5_134 : Cond.methodLink RX5 134 yX8_get ∈ tbG := tb_3 (List.mem_of_getElem? (i := 147) rfl) rfl
theorem im_X8_get : Cond.instanceMethod yX8_get ∈ tbG := tb_3 (List.mem_of_getElem? (i := 148) rfl) rfl
theorem se_X8_get : Cond.selects RX8 yX8_get yX8_get ∈ tbG := tb_3 (List.mem_of_getElem? (i := 149) rfl) rfl
theorem cd_X8_get : Cond.code yX8_get cX8_get 3 (some .int) ∈ tbG := tb_3 (List.mem_of_getElem? (i := 150) rfl) rfl
theorem lk_X5_53 : Cond.methodLink RX5 53 yX5_newLaw ∈ tbG := tb_3 (List.mem_of_getElem? (i := 151) rfl) rfl
theorem im_X5_newLaw : Cond.instanceMethod yX5_newLaw ∈ tbG := tb_3 (List.mem_of_getElem? (i := 153) rfl) rfl
theorem cd_X5_newLaw : Cond.code yX5_newLaw cX5_newLaw 2 (some .boolean) ∈ tbG := tb_3 (List.mem_of_getElem? (i := 154) rfl) rfl
theorem lk_X5_151 : Cond.methodLink RX5 151 yX5_sum ∈ tbG := tb_3 (List.mem_of_getElem? (i := 155) rfl) rfl
theorem im_X5_sum : Cond.instanceMethod yX5_sum ∈ tbG := tb_3 (List.mem_of_getElem? (i := 157) rfl) rfl
theorem cd_X5_sum : Cond.code yX5_sum cX5_sum 5 (some .boolean) ∈ tbG := tb_3 (List.mem_of_getElem? (i := 158) rfl) rfl
theorem lk_X5_189 : Cond.methodLink RX5 189 yX5_product ∈ tbG := tb_3 (List.mem_of_getElem? (i := 159) rfl) rfl
theorem im_X5_product : Cond.instanceMethod yX5_product ∈ tbG := tb_3 (List.mem_of_getElem? (i := 161) rfl) rfl
theorem cd_X5_product : Cond.code yX5_product cX5_product 5 (some .boolean) ∈ tbG := tb_3 (List.mem_of_getElem? (i := 162) rfl) rfl
theorem lk_X5_192 : Cond.methodLink RX5 192 yX5_part ∈ tbG := tb_3 (List.mem_of_getElem? (i := 163) rfl) rfl
theorem im_X5_part : Cond.instanceMethod yX5_part ∈ tbG := tb_3 (List.mem_of_getElem? (i := 165) rfl) rfl
theorem cd_X5_part : Cond.code yX5_part cX5_part 2 (some .boolean) ∈ tbG := tb_3 (List.mem_of_getElem? (i := 166) rfl) rfl
theorem lk_X5_180 : Cond.methodLink RX5 180 yX5_step ∈ tbG := tb_3 (List.mem_of_getElem? (i := 167) rfl) rfl
theorem im_X5_step : Cond.instanceMethod yX5_step ∈ tbG := tb_3 (List.mem_of_getElem? (i := 169) rfl) rfl
theorem cd_X5_step : Cond.code yX5_step cX5_step 2 (some .boolean) ∈ tbG := tb_3 (List.mem_of_getElem? (i := 170) rfl) rfl
theorem lk_X5_174 : Cond.methodLink RX5 174 yX4_addCode ∈ tbG := tb_3 (List.mem_of_getElem? (i := 171) rfl) rfl
theorem im_X4_addCode : Cond.instanceMethod yX4_addCode ∈ tbG := tb_3 (List.mem_of_getElem? (i := 172) rfl) rfl
theorem se_X4_addCode : Cond.selects RX4 yX4_addCode yX4_addCode ∈ tbG := tb_3 (List.mem_of_getElem? (i := 173) rfl) rfl
theorem cd_X4_addCode : Cond.code yX4_addCode cX4_addCode 2 (some .boolean) ∈ tbG := tb_3 (List.mem_of_getElem? (i := 174) rfl) rfl
theorem lk_X5_183 : Cond.methodLink RX5 183 yX5_bracket ∈ tbG := tb_3 (List.mem_of_getElem? (i := 175) rfl) rfl
theorem im_X5_bracket : Cond.instanceMethod yX5_bracket ∈ tbG := tb_3 (List.mem_of_getElem? (i := 177) rfl) rfl
theorem cd_X5_bracket : Cond.code yX5_bracket cX5_bracket 2 (some .boolean) ∈ tbG := tb_3 (List.mem_of_getElem? (i := 178) rfl) rfl
theorem lk_X5_195 : Cond.methodLink RX5 195 yX5_choice ∈ tbG := tb_3 (List.mem_of_getElem? (i := 179) rfl) rfl
theorem im_X5_choice : Cond.instanceMethod yX5_choice ∈ tbG := tb_3 (List.mem_of_getElem? (i := 181) rfl) rfl
theorem cd_X5_choice : Cond.code yX5_choice cX5_choice 3 (some .boolean) ∈ tbG := tb_3 (List.mem_of_getElem? (i := 182) rfl) rfl
theorem lk_X5_154 : Cond.methodLink RX5 154 yX5_test ∈ tbG := tb_3 (List.mem_of_getElem? (i := 183) rfl) rfl
theorem im_X5_test : Cond.instanceMethod yX5_test ∈ tbG := tb_3 (List.mem_of_getElem? (i := 185) rfl) rfl
theorem cd_X5_test : Cond.code yX5_test cX5_test 4 (some .boolean) ∈ tbG := tb_3 (List.mem_of_getElem? (i := 186) rfl) rfl
theorem lk_X5_169 : Cond.methodLink RX5 169 yX5_both ∈ tbG := tb_3 (List.mem_of_getElem? (i := 187) rfl) rfl
theorem im_X5_both : Cond.instanceMethod yX5_both ∈ tbG := tb_3 (List.mem_of_getElem? (i := 189) rfl) rfl
theorem cd_X5_both : Cond.code yX5_both cX5_both 4 (some .boolean) ∈ tbG := tb_3 (List.mem_of_getElem? (i := 190) rfl) rfl
theorem lk_X5_177 : Cond.methodLink RX5 177 yX5_fact ∈ tbG := tb_3 (List.mem_of_getElem? (i := 191) rfl) rfl
theorem im_X5_fact : Cond.instanceMethod yX5_fact ∈ tbG := tb_3 (List.mem_of_getElem? (i := 193) rfl) rfl
theorem cd_X5_fact : Cond.code yX5_fact cX5_fact 5 (some .boolean) ∈ tbG := tb_3 (List.mem_of_getElem? (i := 194) rfl) rfl
theorem lk_X5_186 : Cond.methodLink RX5 186 yX5_comparisonSign ∈ tbG := tb_3 (List.mem_of_getElem? (i := 195) rfl) rfl
theorem im_X5_comparisonSign : Cond.instanceMethod yX5_comparisonSign ∈ tbG := tb_3 (List.mem_of_getElem? (i := 197) rfl) rfl
theorem cd_X5_comparisonSign : Cond.code yX5_comparisonSign cX5_comparisonSign 2 (some .int) ∈ tbG := tb_3 (List.mem_of_getElem? (i := 198) rfl) rfl
theorem lk_X5_56 : Cond.methodLink RX5 56 yX5_newBridge ∈ tbG := tb_3 (List.mem_of_getElem? (i := 199) rfl) rfl
theorem im_X5_newBridge : Cond.instanceMethod yX5_newBridge ∈ tbG := tb_3 (List.mem_of_getElem? (i := 201) rfl) rfl
theorem cd_X5_newBridge : Cond.code yX5_newBridge cX5_newBridge 1 (some .boolean) ∈ tbG := tb_3 (List.mem_of_getElem? (i := 202) rfl) rfl
theorem lk_X5_59 : Cond.methodLink RX5 59 yX5_yearNow ∈ tbG := tb_3 (List.mem_of_getElem? (i := 203) rfl) rfl
theorem im_X5_yearNow : Cond.instanceMethod yX5_yearNow ∈ tbG := tb_3 (List.mem_of_getElem? (i := 205) rfl) rfl
theorem cd_X5_yearNow : Cond.code yX5_yearNow cX5_yearNow 1 (some .boolean) ∈ tbG := tb_3 (List.mem_of_getElem? (i := 206) rfl) rfl
theorem lk_X5_69 : Cond.methodLink RX5 69 yX4_weighTitles ∈ tbG := tb_3 (List.mem_of_getElem? (i := 207) rfl) rfl
theorem im_X4_weighTitles : Cond.instanceMethod yX4_weighTitles ∈ tbG := tb_3 (List.mem_of_getElem? (i := 208) rfl) rfl
theorem se_X4_weighTitles : Cond.selects RX4 yX4_weighTitles yX4_weighTitles ∈ tbG := tb_3 (List.mem_of_getElem? (i := 209) rfl) rfl
theorem cd_X4_weighTitles : Cond.code yX4_weighTitles cX4_weighTitles 2 none ∈ tbG := tb_3 (List.mem_of_getElem? (i := 210) rfl) rfl
theorem lk_X4_75 : Cond.methodLink RX4 75 yX8_name ∈ tbG := tb_3 (List.mem_of_getElem? (i := 211) rfl) rfl
theorem im_X8_name : Cond.instanceMethod yX8_name ∈ tbG := tb_3 (List.mem_of_getElem? (i := 212) rfl) rfl
theorem se_X8_name : Cond.selects RX8 yX8_name yX8_name ∈ tbG := tb_3 (List.mem_of_getElem? (i := 213) rfl) rfl
theorem cd_X8_name : Cond.code yX8_name cX8_name 2 (some .int) ∈ tbG := tb_3 (List.mem_of_getElem? (i := 214) rfl) rfl
theorem lk_X4_78 : Cond.methodLink RX4 78 yX4_nameOunces ∈ tbG := tb_3 (List.mem_of_getElem? (i := 215) rfl) rfl
theorem im_X4_nameOunces : Cond.instanceMethod yX4_nameOunces ∈ tbG := tb_3 (List.mem_of_getElem? (i := 216) rfl) rfl
theorem se_X4_nameOunces : Cond.selects RX4 yX4_nameOunces yX4_nameOunces ∈ tbG := tb_3 (List.mem_of_getElem? (i := 217) rfl) rfl
theorem cd_X4_nameOunces : Cond.code yX4_nameOunces cX4_nameOunces 5 (some .int) ∈ tbG := tb_3 (List.mem_of_getElem? (i := 218) rfl) rfl
theorem lk_X4_65 : Cond.methodLink RX4 65 yX8_lengthOf ∈ tbG := tb_3 (List.mem_of_getElem? (i := 219) rfl) rfl
theorem lk_X4_68 : Cond.methodLink RX4 68 yX8_letterOf ∈ tbG := tb_3 (List.mem_of_getElem? (i := 220) rfl) rfl
theorem lk_X4_72 : Cond.methodLink RX4 72 yX4_ouncesOf ∈ tbG := tb_3 (List.mem_of_getElem? (i := 221) rfl) rfl
theorem im_X4_ouncesOf : Cond.instanceMethod yX4_ouncesOf ∈ tbG := tb_3 (List.mem_of_getElem? (i := 222) rfl) rfl
theorem se_X4_ouncesOf : Cond.selects RX4 yX4_ouncesOf yX4_ouncesOf ∈ tbG := tb_3 (List.mem_of_getElem? (i := 223) rfl) rfl
theorem cd_X4_ouncesOf : Cond.code yX4_ouncesOf cX4_ouncesOf 2 (some .int) ∈ tbG := tb_3 (List.mem_of_getElem? (i := 224) rfl) rfl
theorem lk_X4_81 : Cond.methodLink RX4 81 yX8_put ∈ tbG := tb_3 (List.mem_of_getElem? (i := 225) rfl) rfl
theorem lk_X10_109 : Cond.methodLink RX10 109 yX2_settle ∈ tbG := tb_3 (List.mem_of_getElem? (i := 226) rfl) rfl
theorem im_X2_settle : Cond.instanceMethod yX2_settle ∈ tbG := tb_3 (List.mem_of_getElem? (i := 227) rfl) rfl
theorem se_X2_settle : Cond.selects RX2 yX2_settle yX2_settle ∈ tbG := tb_3 (List.mem_of_getElem? (i := 228) rfl) rfl
theorem cd_X2_settle : Cond.code yX2_settle cX2_settle 2 none ∈ tbG := tb_3 (List.mem_of_getElem? (i := 229) rfl) rfl
theorem lk_X2_63 : Cond.methodLink RX2 63 yJ7_fill_53178 ∈ tbG := tb_3 (List.mem_of_getElem? (i := 230) rfl) rfl
theorem lk_X2_72 : Cond.methodLink RX2 72 ⟨"java/lang/System", "arraycopy", "(Ljava/lang/Object;ILjava/lang/Object;II)V"⟩ ∈ tbG := tb_3 (List.mem_of_getElem? (i := 231) rfl) rfl
theorem lk_X2_81 : Cond.methodLink RX2 81 yX2_bearAnew ∈ tbG := tb_3 (List.mem_of_getElem? (i := 234) rfl) rfl
theorem im_X2_bearAnew : Cond.instanceMethod yX2_bearAnew ∈ tbG := tb_3 (List.mem_of_getElem? (i := 235) rfl) rfl
theorem se_X2_bearAnew : Cond.selects RX2 yX2_bearAnew yX2_bearAnew ∈ tbG := tb_3 (List.mem_of_getElem? (i := 236) rfl) rfl
theorem cd_X2_bearAnew : Cond.code yX2_bearAnew cX2_bearAnew 1 none ∈ tbG := tb_3 (List.mem_of_getElem? (i := 237) rfl) rfl
theorem lk_X2_84 : Cond.methodLink RX2 84 yX7_clear ∈ tbG := tb_3 (List.mem_of_getElem? (i := 238) rfl) rfl
theorem im_X7_clear : Cond.instanceMethod yX7_clear ∈ tbG := tb_3 (List.mem_of_getElem? (i := 239) rfl) rfl
theorem se_X7_clear : Cond.selects RX7 yX7_clear yX7_clear ∈ tbG := tb_4 (List.mem_of_getElem? (i := 0) rfl) rfl
theorem cd_X7_clear : Cond.code yX7_clear cX7_clear 1 none ∈ tbG := tb_4 (List.mem_of_getElem? (i := 1) rfl) rfl
theorem lk_X10_112 : Cond.methodLink RX10 112 yX1_forget ∈ tbG := tb_4 (List.mem_of_getElem? (i := 2) rfl) rfl
theorem im_X1_forget : Cond.instanceMethod yX1_forget ∈ tbG := tb_4 (List.mem_of_getElem? (i := 3) rfl) rfl
theorem se_X1_forget : Cond.selects RX1 yX1_forget yX1_forget ∈ tbG := tb_4 (List.mem_of_getElem? (i := 4) rfl) rfl
theorem cd_X1_forget : Cond.code yX1_forget cX1_forget 1 none ∈ tbG := tb_4 (List.mem_of_getElem? (i := 5) rfl) rfl
theorem lk_X1_39 : Cond.methodLink RX1 39 yX7_clear ∈ tbG := tb_4 (List.mem_of_getElem? (i := 6) rfl) rfl
theorem lk_L_28 : Cond.methodLink RL 28 yX10_fault ∈ tbG := tb_4 (List.mem_of_getElem? (i := 7) rfl) rfl
theorem im_X10_fault : Cond.instanceMethod yX10_fault ∈ tbG := tb_4 (List.mem_of_getElem? (i := 8) rfl) rfl
theorem se_X10_fault : Cond.selects RX10 yX10_fault yX10_fault ∈ tbG := tb_4 (List.mem_of_getElem? (i := 9) rfl) rfl
theorem cd_X10_fault : Cond.code yX10_fault cX10_fault 2 (some .int) ∈ tbG := tb_4 (List.mem_of_getElem? (i := 10) rfl) rfl
theorem lk_L_33 : Cond.methodLink RL 33 yX10_has ∈ tbG := tb_4 (List.mem_of_getElem? (i := 11) rfl) rfl
theorem im_X10_has : Cond.instanceMethod yX10_has ∈ tbG := tb_4 (List.mem_of_getElem? (i := 12) rfl) rfl
theorem se_X10_has : Cond.selects RX10 yX10_has yX10_has ∈ tbG := tb_4 (List.mem_of_getElem? (i := 13) rfl) rfl
theorem cd_X10_has : Cond.code yX10_has cX10_has 3 (some .int) ∈ tbG := tb_4 (List.mem_of_getElem? (i := 14) rfl) rfl
theorem lk_L_37 : Cond.methodLink RL 37 yX10_letter ∈ tbG := tb_4 (List.mem_of_getElem? (i := 15) rfl) rfl
theorem im_X10_letter : Cond.instanceMethod yX10_letter ∈ tbG := tb_4 (List.mem_of_getElem? (i := 16) rfl) rfl
theorem se_X10_letter : Cond.selects RX10 yX10_letter yX10_letter ∈ tbG := tb_4 (List.mem_of_getElem? (i := 17) rfl) rfl
theorem cd_X10_letter : Cond.code yX10_letter cX10_letter 7 (some .int) ∈ tbG := tb_4 (List.mem_of_getElem? (i := 18) rfl) rfl
theorem lk_X10_152 : Cond.methodLink RX10 152 yX8_name ∈ tbG := tb_4 (List.mem_of_getElem? (i := 19) rfl) rfl
theorem lk_X10_156 : Cond.methodLink RX10 156 yX8_letterOf ∈ tbG := tb_4 (List.mem_of_getElem? (i := 20) rfl) rfl
theorem lk_L_42 : Cond.methodLink RL 42 yX10_ounces ∈ tbG := tb_4 (List.mem_of_getElem? (i := 21) rfl) rfl
theorem im_X10_ounces : Cond.instanceMethod yX10_ounces ∈ tbG := tb_4 (List.mem_of_getElem? (i := 22) rfl) rfl
theorem se_X10_ounces : Cond.selects RX10 yX10_ounces yX10_ounces ∈ tbG := tb_4 (List.mem_of_getElem? (i := 23) rfl) rfl
theorem cd_X10_ounces : Cond.code yX10_ounces cX10_ounces 2 (some .int) ∈ tbG := tb_4 (List.mem_of_getElem? (i := 24) rfl) rfl
theorem lk_X10_159 : Cond.methodLink RX10 159 yX10_letterIndex ∈ tbG := tb_4 (List.mem_of_getElem? (i := 25) rfl) rfl
theorem sm_X10_letterIndex : Cond.static yX10_letterIndex ∈ tbG := tb_4 (List.mem_of_getElem? (i := 26) rfl) rfl
theorem cd_X10_letterIndex : Cond.code yX10_letterIndex cX10_letterIndex 2 (some .int) ∈ tbG := tb_4 (List.mem_of_getElem? (i := 27) rfl) rfl
theorem lk_X10_162 : Cond.methodLink RX10 162 yX4_ouncesOf ∈ tbG := tb_4 (List.mem_of_getElem? (i := 28) rfl) rfl
theorem lk_L_46 : Cond.methodLink RL 46 yX10_title ∈ tbG := tb_4 (List.mem_of_getElem? (i := 29) rfl) rfl
theorem im_X10_title : Cond.instanceMethod yX10_title ∈ tbG := tb_4 (List.mem_of_getElem? (i := 30) rfl) rfl
theorem se_X10_title : Cond.selects RX10 yX10_title yX10_title ∈ tbG := tb_4 (List.mem_of_getElem? (i := 31) rfl) rfl
theorem cd_X10_title : Cond.code yX10_title cX10_title 4 (some .int) ∈ tbG := tb_4 (List.mem_of_getElem? (i := 32) rfl) rfl
theorem lk_X10_165 : Cond.methodLink RX10 165 yX8_holds ∈ tbG := tb_4 (List.mem_of_getElem? (i := 33) rfl) rfl
theorem lk_X10_169 : Cond.methodLink RX10 169 yX4_titleOunces ∈ tbG := tb_4 (List.mem_of_getElem? (i := 34) rfl) rfl
theorem im_X4_titleOunces : Cond.instanceMethod yX4_titleOunces ∈ tbG := tb_4 (List.mem_of_getElem? (i := 35) rfl) rfl
theorem se_X4_titleOunces : Cond.selects RX4 yX4_titleOunces yX4_titleOunces ∈ tbG := tb_4 (List.mem_of_getElem? (i := 36) rfl) rfl
theorem cd_X4_titleOunces : Cond.code yX4_titleOunces cX4_titleOunces 2 (some .int) ∈ tbG := tb_4 (List.mem_of_getElem? (i := 37) rfl) rfl
theorem lk_X4_85 : Cond.methodLink RX4 85 yX8_get ∈ tbG := tb_4 (List.mem_of_getElem? (i := 38) rfl) rfl
theorem lk_X10_172 : Cond.methodLink RX10 172 yX8_get ∈ tbG := tb_4 (List.mem_of_getElem? (i := 39) rfl) rfl
theorem lk_X10_175 : Cond.methodLink RX10 175 yX8_lengthOf ∈ tbG := tb_4 (List.mem_of_getElem? (i := 40) rfl) rfl
theorem lk_X10_178 : Cond.methodLink RX10 178 yX2_bearers ∈ tbG := tb_4 (List.mem_of_getElem? (i := 41) rfl) rfl
theorem im_X2_bearers : Cond.instanceMethod yX2_bearers ∈ tbG := tb_4 (List.mem_of_getElem? (i := 42) rfl) rfl
theorem se_X2_bearers : Cond.selects RX2 yX2_bearers yX2_bearers ∈ tbG := tb_4 (List.mem_of_getElem? (i := 43) rfl) rfl
theorem cd_X2_bearers : Cond.code yX2_bearers cX2_bearers 4 (some .int) ∈ tbG := tb_4 (List.mem_of_getElem? (i := 44) rfl) rfl
theorem lk_X2_99 : Cond.methodLink RX2 99 yX2_bears ∈ tbG := tb_4 (List.mem_of_getElem? (i := 45) rfl) rfl
theorem im_X2_bears : Cond.instanceMethod yX2_bears ∈ tbG := tb_4 (List.mem_of_getElem? (i := 46) rfl) rfl
theorem se_X2_bears : Cond.selects RX2 yX2_bears yX2_bears ∈ tbG := tb_4 (List.mem_of_getElem? (i := 47) rfl) rfl
theorem cd_X2_bears : Cond.code yX2_bears cX2_bears 3 (some .boolean) ∈ tbG := tb_4 (List.mem_of_getElem? (i := 48) rfl) rfl
theorem lk_X2_91 : Cond.methodLink RX2 91 yX8_holds ∈ tbG := tb_4 (List.mem_of_getElem? (i := 49) rfl) rfl
theorem lk_L_51 : Cond.methodLink RL 51 yX10_person ∈ tbG := tb_4 (List.mem_of_getElem? (i := 50) rfl) rfl
theorem im_X10_person : Cond.instanceMethod yX10_person ∈ tbG := tb_4 (List.mem_of_getElem? (i := 51) rfl) rfl
theorem se_X10_person : Cond.selects RX10 yX10_person yX10_person ∈ tbG := tb_4 (List.mem_of_getElem? (i := 52) rfl) rfl
theorem cd_X10_person : Cond.code yX10_person cX10_person 3 (some .int) ∈ tbG := tb_4 (List.mem_of_getElem? (i := 53) rfl) rfl
theorem lk_X10_181 : Cond.methodLink RX10 181 yX2_isPerson ∈ tbG := tb_4 (List.mem_of_getElem? (i := 54) rfl) rfl
theorem im_X2_isPerson : Cond.instanceMethod yX2_isPerson ∈ tbG := tb_4 (List.mem_of_getElem? (i := 55) rfl) rfl
theorem se_X2_isPerson : Cond.selects RX2 yX2_isPerson yX2_isPerson ∈ tbG := tb_4 (List.mem_of_getElem? (i := 56) rfl) rfl
theorem cd_X2_isPerson : Cond.code yX2_isPerson cX2_isPerson 2 (some .boolean) ∈ tbG := tb_4 (List.mem_of_getElem? (i := 57) rfl) rfl
theorem lk_X10_184 : Cond.methodLink RX10 184 yX2_ageOf ∈ tbG := tb_4 (List.mem_of_getElem? (i := 58) rfl) rfl
theorem im_X2_ageOf : Cond.instanceMethod yX2_ageOf ∈ tbG := tb_4 (List.mem_of_getElem? (i := 59) rfl) rfl
theorem se_X2_ageOf : Cond.selects RX2 yX2_ageOf yX2_ageOf ∈ tbG := tb_4 (List.mem_of_getElem? (i := 60) rfl) rfl
theorem cd_X2_ageOf : Cond.code yX2_ageOf cX2_ageOf 2 (some .int) ∈ tbG := tb_4 (List.mem_of_getElem? (i := 61) rfl) rfl
theorem lk_X2_155 : Cond.methodLink RX2 155 yX8_get ∈ tbG := tb_4 (List.mem_of_getElem? (i := 62) rfl) rfl
theorem lk_X2_156 : Cond.methodLink RX2 156 yJ9_max_7cf53 ∈ tbG := tb_4 (List.mem_of_getElem? (i := 63) rfl) rfl
theorem lk_X10_187 : Cond.methodLink RX10 187 yX2_limitOf ∈ tbG := tb_4 (List.mem_of_getElem? (i := 64) rfl) rfl
theorem im_X2_limitOf : Cond.instanceMethod yX2_limitOf ∈ tbG := tb_4 (List.mem_of_getElem? (i := 65) rfl) rfl
theorem se_X2_limitOf : Cond.selects RX2 yX2_limitOf yX2_limitOf ∈ tbG := tb_4 (List.mem_of_getElem? (i := 66) rfl) rfl
theorem cd_X2_limitOf : Cond.code yX2_limitOf cX2_limitOf 5 (some .int) ∈ tbG := tb_4 (List.mem_of_getElem? (i := 67) rfl) rfl
theorem lk_X2_161 : Cond.methodLink RX2 161 yX2_ageOf ∈ tbG := tb_4 (List.mem_of_getElem? (i := 68) rfl) rfl
theorem lk_X2_164 : Cond.methodLink RX2 164 yX0_tell ∈ tbG := tb_4 (List.mem_of_getElem? (i := 69) rfl) rfl
theorem im_X0_tell : Cond.instanceMethod yX0_tell ∈ tbG := tb_4 (List.mem_of_getElem? (i := 70) rfl) rfl
theorem se_X0_tell : Cond.selects RX0 yX0_tell yX0_tell ∈ tbG := tb_4 (List.mem_of_getElem? (i := 71) rfl) rfl
theorem cd_X0_tell : Cond.code yX0_tell cX0_tell 4 none ∈ tbG := tb_4 (List.mem_of_getElem? (i := 72) rfl) rfl
theorem lk_X2_167 : Cond.methodLink RX2 167 yX2_honourOf ∈ tbG := tb_4 (List.mem_of_getElem? (i := 73) rfl) rfl
theorem im_X2_honourOf : Cond.instanceMethod yX2_honourOf ∈ tbG := tb_4 (List.mem_of_getElem? (i := 74) rfl) rfl
theorem se_X2_honourOf : Cond.selects RX2 yX2_honourOf yX2_honourOf ∈ tbG := tb_4 (List.mem_of_getElem? (i := 75) rfl) rfl
theorem cd_X2_honourOf : Cond.code yX2_honourOf cX2_honourOf 2 (some .int) ∈ tbG := tb_4 (List.mem_of_getElem? (i := 76) rfl) rfl
theorem lk_X2_140 : Cond.methodLink RX2 140 yX2_titlesOf ∈ tbG := tb_4 (List.mem_of_getElem? (i := 77) rfl) rfl
theorem im_X2_titlesOf : Cond.instanceMethod yX2_titlesOf ∈ tbG := tb_4 (List.mem_of_getElem? (i := 78) rfl) rfl
theorem se_X2_titlesOf : Cond.selects RX2 yX2_titlesOf yX2_titlesOf ∈ tbG := tb_4 (List.mem_of_getElem? (i := 79) rfl) rfl
theorem cd_X2_titlesOf : Cond.code yX2_titlesOf cX2_titlesOf 2 (some .int) ∈ tbG := tb_4 (List.mem_of_getElem? (i := 80) rfl) rfl
theorem lk_X2_152 : Cond.methodLink RX2 152 yX4_honourOfSet ∈ tbG := tb_4 (List.mem_of_getElem? (i := 81) rfl) rfl
theorem im_X4_honourOfSet : Cond.instanceMethod yX4_honourOfSet ∈ tbG := tb_4 (List.mem_of_getElem? (i := 82) rfl) rfl
theorem se_X4_honourOfSet : Cond.selects RX4 yX4_honourOfSet yX4_honourOfSet ∈ tbG := tb_4 (List.mem_of_getElem? (i := 83) rfl) rfl
theorem cd_X4_honourOfSet : Cond.code yX4_honourOfSet cX4_honourOfSet 4 (some .int) ∈ tbG := tb_4 (List.mem_of_getElem? (i := 84) rfl) rfl
theorem lk_X2_170 : Cond.methodLink RX2 170 yJ6_bitCount_0f7a4 ∈ tbG := tb_4 (List.mem_of_getElem? (i := 85) rfl) rfl
theorem sm_J6_bitCount_0f7a4 : Cond.static yJ6_bitCount_0f7a4 ∈ tbG := tb_4 (List.mem_of_getElem? (i := 86) rfl) rfl
theorem cd_J6_bitCount_0f7a4 : Cond.code yJ6_bitCount_0f7a4 cJ6_bitCount_0f7a4 1 (some .int) ∈ tbG := tb_4 (List.mem_of_getElem? (i := 87) rfl) rfl
theorem lk_J6_265 : Cond.constant RJ6 265 (1431655765) ∈ tbG := tb_4 (List.mem_of_getElem? (i := 88) rfl) rfl
theorem lk_J6_266 : Cond.constant RJ6 266 (858993459) ∈ tbG := tb_4 (List.mem_of_getElem? (i := 89) rfl) rfl
theorem lk_J6_267 : Cond.constant RJ6 267 (252645135) ∈ tbG := tb_4 (List.mem_of_getElem? (i := 90) rfl) rfl
theorem lk_X2_175 : Cond.methodLink RX2 175 yX4_partsAt ∈ tbG := tb_4 (List.mem_of_getElem? (i := 91) rfl) rfl
theorem im_X4_partsAt : Cond.instanceMethod yX4_partsAt ∈ tbG := tb_4 (List.mem_of_getElem? (i := 92) rfl) rfl
theorem se_X4_partsAt : Cond.selects RX4 yX4_partsAt yX4_partsAt ∈ tbG := tb_4 (List.mem_of_getElem? (i := 93) rfl) rfl
theorem cd_X4_partsAt : Cond.code yX4_partsAt cX4_partsAt 4 (some .int) ∈ tbG := tb_4 (List.mem_of_getElem? (i := 94) rfl) rfl
theorem lk_X2_178 : Cond.methodLink RX2 178 yX0_firstLaw ∈ tbG := tb_4 (List.mem_of_getElem? (i := 95) rfl) rfl
theorem im_X0_firstLaw : Cond.instanceMethod yX0_firstLaw ∈ tbG := tb_4 (List.mem_of_getElem? (i := 96) rfl) rfl
theorem se_X0_firstLaw : Cond.selects RX0 yX0_firstLaw yX0_firstLaw ∈ tbG := tb_4 (List.mem_of_getElem? (i := 97) rfl) rfl
theorem cd_X0_firstLaw : Cond.code yX0_firstLaw cX0_firstLaw 4 (some .int) ∈ tbG := tb_4 (List.mem_of_getElem? (i := 98) rfl) rfl
theorem lk_X0_29 : Cond.methodLink RX0 29 yX8_get ∈ tbG := tb_4 (List.mem_of_getElem? (i := 99) rfl) rfl
theorem lk_X0_36 : Cond.methodLink RX0 36 yX0_run ∈ tbG := tb_4 (List.mem_of_getElem? (i := 100) rfl) rfl
theorem im_X0_run : Cond.instanceMethod yX0_run ∈ tbG := tb_4 (List.mem_of_getElem? (i := 102) rfl) rfl
theorem cd_X0_run : Cond.code yX0_run cX0_run 7 (some .int) ∈ tbG := tb_4 (List.mem_of_getElem? (i := 103) rfl) rfl
theorem lk_X0_40 : Cond.methodLink RX0 40 yJ9_max_7cf53 ∈ tbG := tb_4 (List.mem_of_getElem? (i := 104) rfl) rfl
theorem lk_X0_45 : Cond.methodLink RX0 45 yX0_push ∈ tbG := tb_4 (List.mem_of_getElem? (i := 105) rfl) rfl
theorem im_X0_push : Cond.instanceMethod yX0_push ∈ tbG := tb_4 (List.mem_of_getElem? (i := 107) rfl) rfl
theorem cd_X0_push : Cond.code yX0_push cX0_push 2 none ∈ tbG := tb_4 (List.mem_of_getElem? (i := 108) rfl) rfl
theorem lk_X0_49 : Cond.methodLink RX0 49 yX0_pop ∈ tbG := tb_4 (List.mem_of_getElem? (i := 109) rfl) rfl
theorem im_X0_pop : Cond.instanceMethod yX0_pop ∈ tbG := tb_4 (List.mem_of_getElem? (i := 111) rfl) rfl
theorem cd_X0_pop : Cond.code yX0_pop cX0_pop 1 (some .int) ∈ tbG := tb_4 (List.mem_of_getElem? (i := 112) rfl) rfl
theorem lk_X0_53 : Cond.methodLink RX0 53 yX0_joined ∈ tbG := tb_4 (List.mem_of_getElem? (i := 113) rfl) rfl
theorem sm_X0_joined : Cond.static yX0_joined ∈ tbG := tb_4 (List.mem_of_getElem? (i := 114) rfl) rfl
theorem cd_X0_joined : Cond.code yX0_joined cX0_joined 5 (some .long) ∈ tbG := tb_4 (List.mem_of_getElem? (i := 115) rfl) rfl
theorem lk_X0_61 : Cond.methodLink RX0 61 yJ9_floorDiv_f86c9 ∈ tbG := tb_4 (List.mem_of_getElem? (i := 116) rfl) rfl
theorem sm_J9_floorDiv_f86c9 : Cond.static yJ9_floorDiv_f86c9 ∈ tbG := tb_4 (List.mem_of_getElem? (i := 117) rfl) rfl
theorem cd_J9_floorDiv_f86c9 : Cond.code yJ9_floorDiv_f86c9 cJ9_floorDiv_f86c9 6 (some .long) ∈ tbG := tb_4 (List.mem_of_getElem? (i := 118) rfl) rfl
theorem lk_X0_65 : Cond.methodLink RX0 65 yJ9_floorMod_f86c9 ∈ tbG := tb_4 (List.mem_of_getElem? (i := 119) rfl) rfl
theorem sm_J9_floorMod_f86c9 : Cond.static yJ9_floorMod_f86c9 ∈ tbG := tb_4 (List.mem_of_getElem? (i := 120) rfl) rfl
theorem cd_J9_floorMod_f86c9 : Cond.code yJ9_floorMod_f86c9 cJ9_floorMod_f86c9 6 (some .long) ∈ tbG := tb_4 (List.mem_of_getElem? (i := 121) rfl) rfl
theorem lk_X0_68 : Cond.methodLink RX0 68 yJ9_min_f86c9 ∈ tbG := tb_4 (List.mem_of_getElem? (i := 122) rfl) rfl
theorem sm_J9_min_f86c9 : Cond.static yJ9_min_f86c9 ∈ tbG := tb_4 (List.mem_of_getElem? (i := 123) rfl) rfl
theorem cd_J9_min_f86c9 : Cond.code yJ9_min_f86c9 cJ9_min_f86c9 4 (some .long) ∈ tbG := tb_4 (List.mem_of_getElem? (i := 124) rfl) rfl
theorem lk_X0_71 : Cond.methodLink RX0 71 yJ9_max_f86c9 ∈ tbG := tb_4 (List.mem_of_getElem? (i := 125) rfl) rfl
theorem sm_J9_max_f86c9 : Cond.static yJ9_max_f86c9 ∈ tbG := tb_4 (List.mem_of_getElem? (i := 126) rfl) rfl
theorem cd_J9_max_f86c9 : Cond.code yJ9_max_f86c9 cJ9_max_f86c9 4 (some .long) ∈ tbG := tb_4 (List.mem_of_getElem? (i := 127) rfl) rfl
theorem lk_X0_57 : Cond.methodLink RX0 57 yX0_held ∈ tbG := tb_4 (List.mem_of_getElem? (i := 128) rfl) rfl
theorem sm_X0_held : Cond.static yX0_held ∈ tbG := tb_4 (List.mem_of_getElem? (i := 129) rfl) rfl
theorem cd_X0_held : Cond.code yX0_held cX0_held 2 (some .int) ∈ tbG := tb_4 (List.mem_of_getElem? (i := 130) rfl) rfl
theorem lk_X0_73 : Cond.constantLong RX0 73 (-1000000) ∈ tbG := tb_4 (List.mem_of_getElem? (i := 131) rfl) rfl
theorem lk_X0_75 : Cond.constantLong RX0 75 (1000000) ∈ tbG := tb_4 (List.mem_of_getElem? (i := 132) rfl) rfl
theorem lk_X2_182 : Cond.methodLink RX2 182 yJ9_min_7cf53 ∈ tbG := tb_4 (List.mem_of_getElem? (i := 133) rfl) rfl
theorem lk_X10_190 : Cond.methodLink RX10 190 yX2_loadOf ∈ tbG := tb_4 (List.mem_of_getElem? (i := 134) rfl) rfl
theorem im_X2_loadOf : Cond.instanceMethod yX2_loadOf ∈ tbG := tb_4 (List.mem_of_getElem? (i := 135) rfl) rfl
theorem se_X2_loadOf : Cond.selects RX2 yX2_loadOf yX2_loadOf ∈ tbG := tb_4 (List.mem_of_getElem? (i := 136) rfl) rfl
theorem cd_X2_loadOf : Cond.code yX2_loadOf cX2_loadOf 2 (some .int) ∈ tbG := tb_4 (List.mem_of_getElem? (i := 137) rfl) rfl
theorem lk_X2_143 : Cond.methodLink RX2 143 yX4_ouncesOfSet ∈ tbG := tb_4 (List.mem_of_getElem? (i := 138) rfl) rfl
theorem im_X4_ouncesOfSet : Cond.instanceMethod yX4_ouncesOfSet ∈ tbG := tb_4 (List.mem_of_getElem? (i := 139) rfl) rfl
theorem se_X4_ouncesOfSet : Cond.selects RX4 yX4_ouncesOfSet yX4_ouncesOfSet ∈ tbG := tb_4 (List.mem_of_getElem? (i := 140) rfl) rfl
theorem cd_X4_ouncesOfSet : Cond.code yX4_ouncesOfSet cX4_ouncesOfSet 4 (some .int) ∈ tbG := tb_4 (List.mem_of_getElem? (i := 141) rfl) rfl
theorem lk_X2_146 : Cond.methodLink RX2 146 yX2_looseOunces ∈ tbG := tb_4 (List.mem_of_getElem? (i := 142) rfl) rfl
theorem im_X2_looseOunces : Cond.instanceMethod yX2_looseOunces ∈ tbG := tb_4 (List.mem_of_getElem? (i := 143) rfl) rfl
theorem se_X2_looseOunces : Cond.selects RX2 yX2_looseOunces yX2_looseOunces ∈ tbG := tb_4 (List.mem_of_getElem? (i := 144) rfl) rfl
theorem cd_X2_looseOunces : Cond.code yX2_looseOunces cX2_looseOunces 4 (some .int) ∈ tbG := tb_4 (List.mem_of_getElem? (i := 145) rfl) rfl
theorem lk_X2_134 : Cond.methodLink RX2 134 yX2_count ∈ tbG := tb_4 (List.mem_of_getElem? (i := 146) rfl) rfl
theorem im_X2_count : Cond.instanceMethod yX2_count ∈ tbG := tb_4 (List.mem_of_getElem? (i := 147) rfl) rfl
theorem se_X2_count : Cond.selects RX2 yX2_count yX2_count ∈ tbG := tb_4 (List.mem_of_getElem? (i := 148) rfl) rfl
theorem cd_X2_count : Cond.code yX2_count cX2_count 3 (some .int) ∈ tbG := tb_4 (List.mem_of_getElem? (i := 149) rfl) rfl
theorem lk_X2_137 : Cond.methodLink RX2 137 yX4_ouncesOf ∈ tbG := tb_4 (List.mem_of_getElem? (i := 150) rfl) rfl
theorem lk_X10_193 : Cond.methodLink RX10 193 yX2_honourOf ∈ tbG := tb_4 (List.mem_of_getElem? (i := 151) rfl) rfl
theorem lk_X10_196 : Cond.methodLink RX10 196 yX2_titlesOf ∈ tbG := tb_4 (List.mem_of_getElem? (i := 152) rfl) rfl
theorem lk_X10_199 : Cond.methodLink RX10 199 yX2_looseLetters ∈ tbG := tb_4 (List.mem_of_getElem? (i := 153) rfl) rfl
theorem im_X2_looseLetters : Cond.instanceMethod yX2_looseLetters ∈ tbG := tb_4 (List.mem_of_getElem? (i := 154) rfl) rfl
theorem se_X2_looseLetters : Cond.selects RX2 yX2_looseLetters yX2_looseLetters ∈ tbG := tb_4 (List.mem_of_getElem? (i := 155) rfl) rfl
theorem cd_X2_looseLetters : Cond.code yX2_looseLetters cX2_looseLetters 4 (some .int) ∈ tbG := tb_4 (List.mem_of_getElem? (i := 156) rfl) rfl
theorem lk_X10_202 : Cond.methodLink RX10 202 yX10_bestOfAll ∈ tbG := tb_4 (List.mem_of_getElem? (i := 157) rfl) rfl
theorem im_X10_bestOfAll : Cond.instanceMethod yX10_bestOfAll ∈ tbG := tb_4 (List.mem_of_getElem? (i := 159) rfl) rfl
theorem cd_X10_bestOfAll : Cond.code yX10_bestOfAll cX10_bestOfAll 2 (some .int) ∈ tbG := tb_4 (List.mem_of_getElem? (i := 160) rfl) rfl
theorem lk_X10_211 : Cond.methodLink RX10 211 yX4_allTitles ∈ tbG := tb_4 (List.mem_of_getElem? (i := 161) rfl) rfl
theorem im_X4_allTitles : Cond.instanceMethod yX4_allTitles ∈ tbG := tb_4 (List.mem_of_getElem? (i := 162) rfl) rfl
theorem se_X4_allTitles : Cond.selects RX4 yX4_allTitles yX4_allTitles ∈ tbG := tb_4 (List.mem_of_getElem? (i := 163) rfl) rfl
theorem cd_X4_allTitles : Cond.code yX4_allTitles cX4_allTitles 1 (some .int) ∈ tbG := tb_4 (List.mem_of_getElem? (i := 164) rfl) rfl
theorem lk_X10_215 : Cond.methodLink RX10 215 yX9_bestSet ∈ tbG := tb_4 (List.mem_of_getElem? (i := 165) rfl) rfl
theorem im_X9_bestSet : Cond.instanceMethod yX9_bestSet ∈ tbG := tb_4 (List.mem_of_getElem? (i := 166) rfl) rfl
theorem se_X9_bestSet : Cond.selects RX9 yX9_bestSet yX9_bestSet ∈ tbG := tb_4 (List.mem_of_getElem? (i := 167) rfl) rfl
theorem cd_X9_bestSet : Cond.code yX9_bestSet cX9_bestSet 6 (some .int) ∈ tbG := tb_4 (List.mem_of_getElem? (i := 168) rfl) rfl
theorem lk_X9_48 : Cond.methodLink RX9 48 yJ9_min_7cf53 ∈ tbG := tb_4 (List.mem_of_getElem? (i := 169) rfl) rfl
theorem lk_X9_57 : Cond.methodLink RX9 57 yX4_titleOunces ∈ tbG := tb_4 (List.mem_of_getElem? (i := 170) rfl) rfl
theorem lk_X9_61 : Cond.methodLink RX9 61 yX8_get ∈ tbG := tb_4 (List.mem_of_getElem? (i := 171) rfl) rfl
theorem lk_X9_70 : Cond.methodLink RX9 70 yX9_choose ∈ tbG := tb_4 (List.mem_of_getElem? (i := 172) rfl) rfl
theorem im_X9_choose : Cond.instanceMethod yX9_choose ∈ tbG := tb_4 (List.mem_of_getElem? (i := 174) rfl) rfl
theorem cd_X9_choose : Cond.code yX9_choose cX9_choose 5 none ∈ tbG := tb_4 (List.mem_of_getElem? (i := 175) rfl) rfl
theorem lk_X9_74 : Cond.methodLink RX9 74 yX9_compare ∈ tbG := tb_4 (List.mem_of_getElem? (i := 176) rfl) rfl
theorem im_X9_compare : Cond.instanceMethod yX9_compare ∈ tbG := tb_4 (List.mem_of_getElem? (i := 178) rfl) rfl
theorem cd_X9_compare : Cond.code yX9_compare cX9_compare 4 none ∈ tbG := tb_4 (List.mem_of_getElem? (i := 179) rfl) rfl
theorem lk_X9_78 : Cond.methodLink RX9 78 yJ6_bitCount_0f7a4 ∈ tbG := tb_4 (List.mem_of_getElem? (i := 180) rfl) rfl
theorem lk_X10_205 : Cond.methodLink RX10 205 yX4_honourOfSet ∈ tbG := tb_4 (List.mem_of_getElem? (i := 181) rfl) rfl
theorem lk_X10_208 : Cond.methodLink RX10 208 yX2_calledBy ∈ tbG := tb_4 (List.mem_of_getElem? (i := 182) rfl) rfl
theorem im_X2_calledBy : Cond.instanceMethod yX2_calledBy ∈ tbG := tb_4 (List.mem_of_getElem? (i := 183) rfl) rfl
theorem se_X2_calledBy : Cond.selects RX2 yX2_calledBy yX2_calledBy ∈ tbG := tb_4 (List.mem_of_getElem? (i := 184) rfl) rfl
theorem cd_X2_calledBy : Cond.code yX2_calledBy cX2_calledBy 4 (some .int) ∈ tbG := tb_4 (List.mem_of_getElem? (i := 185) rfl) rfl
theorem lk_X2_194 : Cond.methodLink RX2 194 yX2_countLetters ∈ tbG := tb_4 (List.mem_of_getElem? (i := 186) rfl) rfl
theorem im_X2_countLetters : Cond.instanceMethod yX2_countLetters ∈ tbG := tb_4 (List.mem_of_getElem? (i := 188) rfl) rfl
theorem cd_X2_countLetters : Cond.code yX2_countLetters cX2_countLetters 8 none ∈ tbG := tb_4 (List.mem_of_getElem? (i := 189) rfl) rfl
theorem lk_X2_120 : Cond.methodLink RX2 120 yX8_name ∈ tbG := tb_4 (List.mem_of_getElem? (i := 190) rfl) rfl
theorem lk_X2_124 : Cond.methodLink RX2 124 yX8_lengthOf ∈ tbG := tb_4 (List.mem_of_getElem? (i := 191) rfl) rfl
theorem lk_X2_127 : Cond.methodLink RX2 127 yX8_letterOf ∈ tbG := tb_4 (List.mem_of_getElem? (i := 192) rfl) rfl
theorem lk_X2_198 : Cond.methodLink RX2 198 yX2_canLay ∈ tbG := tb_4 (List.mem_of_getElem? (i := 193) rfl) rfl
theorem im_X2_canLay : Cond.instanceMethod yX2_canLay ∈ tbG := tb_4 (List.mem_of_getElem? (i := 195) rfl) rfl
theorem cd_X2_canLay : Cond.code yX2_canLay cX2_canLay 6 (some .boolean) ∈ tbG := tb_4 (List.mem_of_getElem? (i := 196) rfl) rfl
theorem lk_X2_185 : Cond.methodLink RX2 185 yX4_rankOf ∈ tbG := tb_4 (List.mem_of_getElem? (i := 197) rfl) rfl
theorem im_X4_rankOf : Cond.instanceMethod yX4_rankOf ∈ tbG := tb_4 (List.mem_of_getElem? (i := 198) rfl) rfl
theorem se_X4_rankOf : Cond.selects RX4 yX4_rankOf yX4_rankOf ∈ tbG := tb_4 (List.mem_of_getElem? (i := 199) rfl) rfl
theorem cd_X4_rankOf : Cond.code yX4_rankOf cX4_rankOf 7 (some .int) ∈ tbG := tb_4 (List.mem_of_getElem? (i := 200) rfl) rfl
theorem lk_L_55 : Cond.methodLink RL 55 yX10_loose ∈ tbG := tb_4 (List.mem_of_getElem? (i := 201) rfl) rfl
theorem im_X10_loose : Cond.instanceMethod yX10_loose ∈ tbG := tb_4 (List.mem_of_getElem? (i := 202) rfl) rfl
theorem se_X10_loose : Cond.selects RX10 yX10_loose yX10_loose ∈ tbG := tb_4 (List.mem_of_getElem? (i := 203) rfl) rfl
theorem cd_X10_loose : Cond.code yX10_loose cX10_loose 4 (some .int) ∈ tbG := tb_4 (List.mem_of_getElem? (i := 204) rfl) rfl
theorem lk_X10_219 : Cond.methodLink RX10 219 yX2_count ∈ tbG := tb_4 (List.mem_of_getElem? (i := 205) rfl) rfl
theorem lk_L_59 : Cond.methodLink RL 59 yX10_lead ∈ tbG := tb_4 (List.mem_of_getElem? (i := 206) rfl) rfl
theorem im_X10_lead : Cond.instanceMethod yX10_lead ∈ tbG := tb_4 (List.mem_of_getElem? (i := 207) rfl) rfl
theorem se_X10_lead : Cond.selects RX10 yX10_lead yX10_lead ∈ tbG := tb_4 (List.mem_of_getElem? (i := 208) rfl) rfl
theorem cd_X10_lead : Cond.code yX10_lead cX10_lead 2 (some .int) ∈ tbG := tb_4 (List.mem_of_getElem? (i := 209) rfl) rfl
theorem lk_X10_222 : Cond.methodLink RX10 222 yX2_coatOunces ∈ tbG := tb_4 (List.mem_of_getElem? (i := 210) rfl) rfl
theorem im_X2_coatOunces : Cond.instanceMethod yX2_coatOunces ∈ tbG := tb_4 (List.mem_of_getElem? (i := 211) rfl) rfl
theorem se_X2_coatOunces : Cond.selects RX2 yX2_coatOunces yX2_coatOunces ∈ tbG := tb_4 (List.mem_of_getElem? (i := 212) rfl) rfl
theorem cd_X2_coatOunces : Cond.code yX2_coatOunces cX2_coatOunces 3 (some .int) ∈ tbG := tb_4 (List.mem_of_getElem? (i := 213) rfl) rfl
theorem lk_X2_149 : Cond.methodLink RX2 149 yX2_loadOf ∈ tbG := tb_4 (List.mem_of_getElem? (i := 214) rfl) rfl
theorem lk_X10_225 : Cond.methodLink RX10 225 yX2_looseOunces ∈ tbG := tb_4 (List.mem_of_getElem? (i := 215) rfl) rfl
theorem lk_X10_231 : Cond.methodLink RX10 231 yX2_bulletOunces ∈ tbG := tb_4 (List.mem_of_getElem? (i := 216) rfl) rfl
theorem im_X2_bulletOunces : Cond.instanceMethod yX2_bulletOunces ∈ tbG := tb_4 (List.mem_of_getElem? (i := 217) rfl) rfl
theorem se_X2_bulletOunces : Cond.selects RX2 yX2_bulletOunces yX2_bulletOunces ∈ tbG := tb_4 (List.mem_of_getElem? (i := 218) rfl) rfl
theorem cd_X2_bulletOunces : Cond.code yX2_bulletOunces cX2_bulletOunces 3 (some .int) ∈ tbG := tb_4 (List.mem_of_getElem? (i := 219) rfl) rfl
theorem lk_L_63 : Cond.methodLink RL 63 yX10_gain ∈ tbG := tb_4 (List.mem_of_getElem? (i := 220) rfl) rfl
theorem im_X10_gain : Cond.instanceMethod yX10_gain ∈ tbG := tb_4 (List.mem_of_getElem? (i := 221) rfl) rfl
theorem se_X10_gain : Cond.selects RX10 yX10_gain yX10_gain ∈ tbG := tb_4 (List.mem_of_getElem? (i := 222) rfl) rfl
theorem cd_X10_gain : Cond.code yX10_gain cX10_gain 3 (some .int) ∈ tbG := tb_4 (List.mem_of_getElem? (i := 223) rfl) rfl
theorem lk_X10_234 : Cond.methodLink RX10 234 yX1_makeTitle ∈ tbG := tb_4 (List.mem_of_getElem? (i := 224) rfl) rfl
theorem im_X1_makeTitle : Cond.instanceMethod yX1_makeTitle ∈ tbG := tb_4 (List.mem_of_getElem? (i := 225) rfl) rfl
theorem se_X1_makeTitle : Cond.selects RX1 yX1_makeTitle yX1_makeTitle ∈ tbG := tb_4 (List.mem_of_getElem? (i := 226) rfl) rfl
theorem cd_X1_makeTitle : Cond.code yX1_makeTitle cX1_makeTitle 4 (some .int) ∈ tbG := tb_4 (List.mem_of_getElem? (i := 227) rfl) rfl
theorem lk_X1_57 : Cond.methodLink RX1 57 yX2_gainOunces ∈ tbG := tb_4 (List.mem_of_getElem? (i := 228) rfl) rfl
theorem im_X2_gainOunces : Cond.instanceMethod yX2_gainOunces ∈ tbG := tb_4 (List.mem_of_getElem? (i := 229) rfl) rfl
theorem se_X2_gainOunces : Cond.selects RX2 yX2_gainOunces yX2_gainOunces ∈ tbG := tb_4 (List.mem_of_getElem? (i := 230) rfl) rfl
theorem cd_X2_gainOunces : Cond.code yX2_gainOunces cX2_gainOunces 9 (some .int) ∈ tbG := tb_4 (List.mem_of_getElem? (i := 231) rfl) rfl
theorem lk_X2_106 : Cond.methodLink RX2 106 yX2_lacks ∈ tbG := tb_4 (List.mem_of_getElem? (i := 232) rfl) rfl
theorem im_X2_lacks : Cond.instanceMethod yX2_lacks ∈ tbG := tb_4 (List.mem_of_getElem? (i := 233) rfl) rfl
theorem se_X2_lacks : Cond.selects RX2 yX2_lacks yX2_lacks ∈ tbG := tb_4 (List.mem_of_getElem? (i := 234) rfl) rfl
theorem cd_X2_lacks : Cond.code yX2_lacks cX2_lacks 3 (some .boolean) ∈ tbG := tb_4 (List.mem_of_getElem? (i := 235) rfl) rfl
theorem lk_X2_188 : Cond.methodLink RX2 188 yX2_limitOf ∈ tbG := tb_4 (List.mem_of_getElem? (i := 236) rfl) rfl
theorem lk_X1_61 : Cond.methodLink RX1 61 yX2_gather ∈ tbG := tb_4 (List.mem_of_getElem? (i := 237) rfl) rfl
theorem im_X2_gather : Cond.instanceMethod yX2_gather ∈ tbG := tb_4 (List.mem_of_getElem? (i := 238) rfl) rfl
theorem se_X2_gather : Cond.selects RX2 yX2_gather yX2_gather ∈ tbG := tb_4 (List.mem_of_getElem? (i := 239) rfl) rfl
theorem cd_X2_gather : Cond.code yX2_gather cX2_gather 7 none ∈ tbG := tb_5 (List.mem_of_getElem? (i := 0) rfl) rfl
theorem lk_X2_130 : Cond.methodLink RX2 130 yX2_change ∈ tbG := tb_5 (List.mem_of_getElem? (i := 1) rfl) rfl
theorem im_X2_change : Cond.instanceMethod yX2_change ∈ tbG := tb_5 (List.mem_of_getElem? (i := 2) rfl) rfl
theorem se_X2_change : Cond.selects RX2 yX2_change yX2_change ∈ tbG := tb_5 (List.mem_of_getElem? (i := 3) rfl) rfl
theorem cd_X2_change : Cond.code yX2_change cX2_change 4 none ∈ tbG := tb_5 (List.mem_of_getElem? (i := 4) rfl) rfl
theorem lk_X1_64 : Cond.methodLink RX1 64 yX2_come ∈ tbG := tb_5 (List.mem_of_getElem? (i := 5) rfl) rfl
theorem im_X2_come : Cond.instanceMethod yX2_come ∈ tbG := tb_5 (List.mem_of_getElem? (i := 6) rfl) rfl
theorem se_X2_come : Cond.selects RX2 yX2_come yX2_come ∈ tbG := tb_5 (List.mem_of_getElem? (i := 7) rfl) rfl
theorem cd_X2_come : Cond.code yX2_come cX2_come 3 none ∈ tbG := tb_5 (List.mem_of_getElem? (i := 8) rfl) rfl
theorem lk_X1_67 : Cond.methodLink RX1 67 yX1_note ∈ tbG := tb_5 (List.mem_of_getElem? (i := 9) rfl) rfl
theorem im_X1_note : Cond.instanceMethod yX1_note ∈ tbG := tb_5 (List.mem_of_getElem? (i := 11) rfl) rfl
theorem cd_X1_note : Cond.code yX1_note cX1_note 5 none ∈ tbG := tb_5 (List.mem_of_getElem? (i := 12) rfl) rfl
theorem lk_X1_46 : Cond.methodLink RX1 46 yX7_grow ∈ tbG := tb_5 (List.mem_of_getElem? (i := 13) rfl) rfl
theorem im_X7_grow : Cond.instanceMethod yX7_grow ∈ tbG := tb_5 (List.mem_of_getElem? (i := 14) rfl) rfl
theorem se_X7_grow : Cond.selects RX7 yX7_grow yX7_grow ∈ tbG := tb_5 (List.mem_of_getElem? (i := 15) rfl) rfl
theorem cd_X7_grow : Cond.code yX7_grow cX7_grow 1 none ∈ tbG := tb_5 (List.mem_of_getElem? (i := 16) rfl) rfl
theorem lk_X7_28 : Cond.methodLink RX7 28 yX7_place ∈ tbG := tb_5 (List.mem_of_getElem? (i := 17) rfl) rfl
theorem im_X7_place : Cond.instanceMethod yX7_place ∈ tbG := tb_5 (List.mem_of_getElem? (i := 19) rfl) rfl
theorem cd_X7_place : Cond.code yX7_place cX7_place 3 (some .int) ∈ tbG := tb_5 (List.mem_of_getElem? (i := 20) rfl) rfl
theorem lk_X1_54 : Cond.methodLink RX1 54 yX7_set ∈ tbG := tb_5 (List.mem_of_getElem? (i := 21) rfl) rfl
theorem im_X7_set : Cond.instanceMethod yX7_set ∈ tbG := tb_5 (List.mem_of_getElem? (i := 22) rfl) rfl
theorem se_X7_set : Cond.selects RX7 yX7_set yX7_set ∈ tbG := tb_5 (List.mem_of_getElem? (i := 23) rfl) rfl
theorem cd_X7_set : Cond.code yX7_set cX7_set 3 none ∈ tbG := tb_5 (List.mem_of_getElem? (i := 24) rfl) rfl
theorem lk_X1_71 : Cond.methodLink RX1 71 yX2_loadOf ∈ tbG := tb_5 (List.mem_of_getElem? (i := 25) rfl) rfl
theorem lk_L_67 : Cond.methodLink RL 67 yX10_shed ∈ tbG := tb_5 (List.mem_of_getElem? (i := 26) rfl) rfl
theorem im_X10_shed : Cond.instanceMethod yX10_shed ∈ tbG := tb_5 (List.mem_of_getElem? (i := 27) rfl) rfl
theorem se_X10_shed : Cond.selects RX10 yX10_shed yX10_shed ∈ tbG := tb_5 (List.mem_of_getElem? (i := 28) rfl) rfl
theorem cd_X10_shed : Cond.code yX10_shed cX10_shed 3 (some .int) ∈ tbG := tb_5 (List.mem_of_getElem? (i := 29) rfl) rfl
theorem lk_X10_237 : Cond.methodLink RX10 237 yX1_dropTitle ∈ tbG := tb_5 (List.mem_of_getElem? (i := 30) rfl) rfl
theorem im_X1_dropTitle : Cond.instanceMethod yX1_dropTitle ∈ tbG := tb_5 (List.mem_of_getElem? (i := 31) rfl) rfl
theorem se_X1_dropTitle : Cond.selects RX1 yX1_dropTitle yX1_dropTitle ∈ tbG := tb_5 (List.mem_of_getElem? (i := 32) rfl) rfl
theorem cd_X1_dropTitle : Cond.code yX1_dropTitle cX1_dropTitle 3 (some .int) ∈ tbG := tb_5 (List.mem_of_getElem? (i := 33) rfl) rfl
theorem lk_X1_75 : Cond.methodLink RX1 75 yX2_bears ∈ tbG := tb_5 (List.mem_of_getElem? (i := 34) rfl) rfl
theorem lk_X1_79 : Cond.methodLink RX1 79 yX2_go ∈ tbG := tb_5 (List.mem_of_getElem? (i := 35) rfl) rfl
theorem im_X2_go : Cond.instanceMethod yX2_go ∈ tbG := tb_5 (List.mem_of_getElem? (i := 36) rfl) rfl
theorem se_X2_go : Cond.selects RX2 yX2_go yX2_go ∈ tbG := tb_5 (List.mem_of_getElem? (i := 37) rfl) rfl
theorem cd_X2_go : Cond.code yX2_go cX2_go 3 none ∈ tbG := tb_5 (List.mem_of_getElem? (i := 38) rfl) rfl
theorem lk_X2_109 : Cond.methodLink RX2 109 yX7_grow ∈ tbG := tb_5 (List.mem_of_getElem? (i := 39) rfl) rfl
theorem lk_X2_112 : Cond.methodLink RX2 112 yX7_set ∈ tbG := tb_5 (List.mem_of_getElem? (i := 40) rfl) rfl
theorem lk_X1_82 : Cond.methodLink RX1 82 yX2_scatter ∈ tbG := tb_5 (List.mem_of_getElem? (i := 41) rfl) rfl
theorem im_X2_scatter : Cond.instanceMethod yX2_scatter ∈ tbG := tb_5 (List.mem_of_getElem? (i := 42) rfl) rfl
theorem se_X2_scatter : Cond.selects RX2 yX2_scatter yX2_scatter ∈ tbG := tb_5 (List.mem_of_getElem? (i := 43) rfl) rfl
theorem cd_X2_scatter : Cond.code yX2_scatter cX2_scatter 6 none ∈ tbG := tb_5 (List.mem_of_getElem? (i := 44) rfl) rfl
theorem lk_X1_89 : Cond.methodLink RX1 89 yX4_titleOunces ∈ tbG := tb_5 (List.mem_of_getElem? (i := 45) rfl) rfl
theorem lk_L_71 : Cond.methodLink RL 71 yX10_steal ∈ tbG := tb_5 (List.mem_of_getElem? (i := 46) rfl) rfl
theorem im_X10_steal : Cond.instanceMethod yX10_steal ∈ tbG := tb_5 (List.mem_of_getElem? (i := 47) rfl) rfl
theorem se_X10_steal : Cond.selects RX10 yX10_steal yX10_steal ∈ tbG := tb_5 (List.mem_of_getElem? (i := 48) rfl) rfl
theorem cd_X10_steal : Cond.code yX10_steal cX10_steal 4 (some .boolean) ∈ tbG := tb_5 (List.mem_of_getElem? (i := 49) rfl) rfl
theorem lk_X10_240 : Cond.methodLink RX10 240 yX1_takeLetter ∈ tbG := tb_5 (List.mem_of_getElem? (i := 50) rfl) rfl
theorem im_X1_takeLetter : Cond.instanceMethod yX1_takeLetter ∈ tbG := tb_5 (List.mem_of_getElem? (i := 51) rfl) rfl
theorem se_X1_takeLetter : Cond.selects RX1 yX1_takeLetter yX1_takeLetter ∈ tbG := tb_5 (List.mem_of_getElem? (i := 52) rfl) rfl
theorem cd_X1_takeLetter : Cond.code yX1_takeLetter cX1_takeLetter 5 (some .boolean) ∈ tbG := tb_5 (List.mem_of_getElem? (i := 53) rfl) rfl
theorem lk_X1_94 : Cond.methodLink RX1 94 yX2_isPerson ∈ tbG := tb_5 (List.mem_of_getElem? (i := 54) rfl) rfl
theorem lk_X1_98 : Cond.methodLink RX1 98 yX2_count ∈ tbG := tb_5 (List.mem_of_getElem? (i := 55) rfl) rfl
theorem lk_X1_101 : Cond.methodLink RX1 101 yX2_titleWith ∈ tbG := tb_5 (List.mem_of_getElem? (i := 56) rfl) rfl
theorem im_X2_titleWith : Cond.instanceMethod yX2_titleWith ∈ tbG := tb_5 (List.mem_of_getElem? (i := 57) rfl) rfl
theorem se_X2_titleWith : Cond.selects RX2 yX2_titleWith yX2_titleWith ∈ tbG := tb_5 (List.mem_of_getElem? (i := 58) rfl) rfl
theorem cd_X2_titleWith : Cond.code yX2_titleWith cX2_titleWith 4 (some .int) ∈ tbG := tb_5 (List.mem_of_getElem? (i := 59) rfl) rfl
theorem lk_X2_191 : Cond.methodLink RX2 191 yX2_isIn ∈ tbG := tb_5 (List.mem_of_getElem? (i := 60) rfl) rfl
theorem sm_X2_isIn : Cond.static yX2_isIn ∈ tbG := tb_5 (List.mem_of_getElem? (i := 61) rfl) rfl
theorem cd_X2_isIn : Cond.code yX2_isIn cX2_isIn 4 (some .boolean) ∈ tbG := tb_5 (List.mem_of_getElem? (i := 62) rfl) rfl
theorem lk_X1_104 : Cond.methodLink RX1 104 yX2_change ∈ tbG := tb_5 (List.mem_of_getElem? (i := 63) rfl) rfl
theorem lk_X1_108 : Cond.methodLink RX1 108 yX4_ouncesOf ∈ tbG := tb_5 (List.mem_of_getElem? (i := 64) rfl) rfl
theorem lk_L_76 : Cond.methodLink RL 76 yX10_trade ∈ tbG := tb_5 (List.mem_of_getElem? (i := 65) rfl) rfl
theorem im_X10_trade : Cond.instanceMethod yX10_trade ∈ tbG := tb_5 (List.mem_of_getElem? (i := 66) rfl) rfl
theorem se_X10_trade : Cond.selects RX10 yX10_trade yX10_trade ∈ tbG := tb_5 (List.mem_of_getElem? (i := 67) rfl) rfl
theorem cd_X10_trade : Cond.code yX10_trade cX10_trade 7 (some .boolean) ∈ tbG := tb_5 (List.mem_of_getElem? (i := 68) rfl) rfl
theorem lk_X10_244 : Cond.methodLink RX10 244 yX1_swapLetters ∈ tbG := tb_5 (List.mem_of_getElem? (i := 69) rfl) rfl
theorem im_X1_swapLetters : Cond.instanceMethod yX1_swapLetters ∈ tbG := tb_5 (List.mem_of_getElem? (i := 70) rfl) rfl
theorem se_X1_swapLetters : Cond.selects RX1 yX1_swapLetters yX1_swapLetters ∈ tbG := tb_5 (List.mem_of_getElem? (i := 71) rfl) rfl
theorem cd_X1_swapLetters : Cond.code yX1_swapLetters cX1_swapLetters 5 (some .boolean) ∈ tbG := tb_5 (List.mem_of_getElem? (i := 72) rfl) rfl
theorem lk_L_81 : Cond.methodLink RL 81 yX10_lend ∈ tbG := tb_5 (List.mem_of_getElem? (i := 73) rfl) rfl
theorem im_X10_lend : Cond.instanceMethod yX10_lend ∈ tbG := tb_5 (List.mem_of_getElem? (i := 74) rfl) rfl
theorem se_X10_lend : Cond.selects RX10 yX10_lend yX10_lend ∈ tbG := tb_5 (List.mem_of_getElem? (i := 75) rfl) rfl
theorem cd_X10_lend : Cond.code yX10_lend cX10_lend 4 (some .int) ∈ tbG := tb_5 (List.mem_of_getElem? (i := 76) rfl) rfl
theorem lk_X10_248 : Cond.methodLink RX10 248 yX1_lendTitle ∈ tbG := tb_5 (List.mem_of_getElem? (i := 77) rfl) rfl
theorem im_X1_lendTitle : Cond.instanceMethod yX1_lendTitle ∈ tbG := tb_5 (List.mem_of_getElem? (i := 78) rfl) rfl
theorem se_X1_lendTitle : Cond.selects RX1 yX1_lendTitle yX1_lendTitle ∈ tbG := tb_5 (List.mem_of_getElem? (i := 79) rfl) rfl
theorem cd_X1_lendTitle : Cond.code yX1_lendTitle cX1_lendTitle 6 (some .int) ∈ tbG := tb_5 (List.mem_of_getElem? (i := 80) rfl) rfl
theorem lk_X1_111 : Cond.methodLink RX1 111 yX8_isFull ∈ tbG := tb_5 (List.mem_of_getElem? (i := 81) rfl) rfl
theorem lk_X1_115 : Cond.methodLink RX1 115 yX2_lacks ∈ tbG := tb_5 (List.mem_of_getElem? (i := 82) rfl) rfl
theorem lk_X1_118 : Cond.methodLink RX1 118 yX2_limitOf ∈ tbG := tb_5 (List.mem_of_getElem? (i := 83) rfl) rfl
theorem lk_X1_121 : Cond.methodLink RX1 121 yX8_add ∈ tbG := tb_5 (List.mem_of_getElem? (i := 84) rfl) rfl
theorem lk_X1_124 : Cond.methodLink RX1 124 yX8_put ∈ tbG := tb_5 (List.mem_of_getElem? (i := 85) rfl) rfl
theorem lk_L_85 : Cond.methodLink RL 85 yX10_giveBack ∈ tbG := tb_5 (List.mem_of_getElem? (i := 86) rfl) rfl
theorem im_X10_giveBack : Cond.instanceMethod yX10_giveBack ∈ tbG := tb_5 (List.mem_of_getElem? (i := 87) rfl) rfl
theorem se_X10_giveBack : Cond.selects RX10 yX10_giveBack yX10_giveBack ∈ tbG := tb_5 (List.mem_of_getElem? (i := 88) rfl) rfl
theorem cd_X10_giveBack : Cond.code yX10_giveBack cX10_giveBack 2 (some .boolean) ∈ tbG := tb_5 (List.mem_of_getElem? (i := 89) rfl) rfl
theorem lk_X10_252 : Cond.methodLink RX10 252 yX1_undoLoan ∈ tbG := tb_5 (List.mem_of_getElem? (i := 90) rfl) rfl
theorem im_X1_undoLoan : Cond.instanceMethod yX1_undoLoan ∈ tbG := tb_5 (List.mem_of_getElem? (i := 91) rfl) rfl
theorem se_X1_undoLoan : Cond.selects RX1 yX1_undoLoan yX1_undoLoan ∈ tbG := tb_5 (List.mem_of_getElem? (i := 92) rfl) rfl
theorem cd_X1_undoLoan : Cond.code yX1_undoLoan cX1_undoLoan 5 (some .boolean) ∈ tbG := tb_5 (List.mem_of_getElem? (i := 93) rfl) rfl
theorem lk_X1_130 : Cond.methodLink RX1 130 yX1_canUndo ∈ tbG := tb_5 (List.mem_of_getElem? (i := 94) rfl) rfl
theorem im_X1_canUndo : Cond.instanceMethod yX1_canUndo ∈ tbG := tb_5 (List.mem_of_getElem? (i := 95) rfl) rfl
theorem se_X1_canUndo : Cond.selects RX1 yX1_canUndo yX1_canUndo ∈ tbG := tb_5 (List.mem_of_getElem? (i := 96) rfl) rfl
theorem cd_X1_canUndo : Cond.code yX1_canUndo cX1_canUndo 3 (some .boolean) ∈ tbG := tb_5 (List.mem_of_getElem? (i := 97) rfl) rfl
theorem lk_X1_127 : Cond.methodLink RX1 127 yX8_get ∈ tbG := tb_5 (List.mem_of_getElem? (i := 98) rfl) rfl
theorem lk_X1_133 : Cond.methodLink RX1 133 yX8_remove ∈ tbG := tb_5 (List.mem_of_getElem? (i := 99) rfl) rfl
theorem im_X8_remove : Cond.instanceMethod yX8_remove ∈ tbG := tb_5 (List.mem_of_getElem? (i := 100) rfl) rfl
theorem se_X8_remove : Cond.selects RX8 yX8_remove yX8_remove ∈ tbG := tb_5 (List.mem_of_getElem? (i := 101) rfl) rfl
theorem cd_X8_remove : Cond.code yX8_remove cX8_remove 4 none ∈ tbG := tb_5 (List.mem_of_getElem? (i := 102) rfl) rfl
theorem lk_L_89 : Cond.methodLink RL 89 yX10_loan ∈ tbG := tb_5 (List.mem_of_getElem? (i := 103) rfl) rfl
theorem im_X10_loan : Cond.instanceMethod yX10_loan ∈ tbG := tb_5 (List.mem_of_getElem? (i := 104) rfl) rfl
theorem se_X10_loan : Cond.selects RX10 yX10_loan yX10_loan ∈ tbG := tb_5 (List.mem_of_getElem? (i := 105) rfl) rfl
theorem cd_X10_loan : Cond.code yX10_loan cX10_loan 3 (some .int) ∈ tbG := tb_5 (List.mem_of_getElem? (i := 106) rfl) rfl
theorem lk_X10_255 : Cond.methodLink RX10 255 yX1_canUndo ∈ tbG := tb_5 (List.mem_of_getElem? (i := 107) rfl) rfl
theorem lk_L_93 : Cond.methodLink RL 93 yX10_drown ∈ tbG := tb_5 (List.mem_of_getElem? (i := 108) rfl) rfl
theorem im_X10_drown : Cond.instanceMethod yX10_drown ∈ tbG := tb_5 (List.mem_of_getElem? (i := 109) rfl) rfl
theorem se_X10_drown : Cond.selects RX10 yX10_drown yX10_drown ∈ tbG := tb_5 (List.mem_of_getElem? (i := 110) rfl) rfl
theorem cd_X10_drown : Cond.code yX10_drown cX10_drown 2 (some .int) ∈ tbG := tb_5 (List.mem_of_getElem? (i := 111) rfl) rfl
theorem lk_X10_258 : Cond.methodLink RX10 258 yX1_sinkCoat ∈ tbG := tb_5 (List.mem_of_getElem? (i := 112) rfl) rfl
theorem im_X1_sinkCoat : Cond.instanceMethod yX1_sinkCoat ∈ tbG := tb_5 (List.mem_of_getElem? (i := 113) rfl) rfl
theorem se_X1_sinkCoat : Cond.selects RX1 yX1_sinkCoat yX1_sinkCoat ∈ tbG := tb_5 (List.mem_of_getElem? (i := 114) rfl) rfl
theorem cd_X1_sinkCoat : Cond.code yX1_sinkCoat cX1_sinkCoat 4 (some .int) ∈ tbG := tb_5 (List.mem_of_getElem? (i := 115) rfl) rfl
theorem lk_L_97 : Cond.methodLink RL 97 yX10_melt ∈ tbG := tb_5 (List.mem_of_getElem? (i := 116) rfl) rfl
theorem im_X10_melt : Cond.instanceMethod yX10_melt ∈ tbG := tb_5 (List.mem_of_getElem? (i := 117) rfl) rfl
theorem se_X10_melt : Cond.selects RX10 yX10_melt yX10_melt ∈ tbG := tb_5 (List.mem_of_getElem? (i := 118) rfl) rfl
theorem cd_X10_melt : Cond.code yX10_melt cX10_melt 3 (some .int) ∈ tbG := tb_5 (List.mem_of_getElem? (i := 119) rfl) rfl
theorem lk_X10_261 : Cond.methodLink RX10 261 yX1_castBullet ∈ tbG := tb_5 (List.mem_of_getElem? (i := 120) rfl) rfl
theorem im_X1_castBullet : Cond.instanceMethod yX1_castBullet ∈ tbG := tb_5 (List.mem_of_getElem? (i := 121) rfl) rfl
theorem se_X1_castBullet : Cond.selects RX1 yX1_castBullet yX1_castBullet ∈ tbG := tb_5 (List.mem_of_getElem? (i := 122) rfl) rfl
theorem cd_X1_castBullet : Cond.code yX1_castBullet cX1_castBullet 4 (some .int) ∈ tbG := tb_5 (List.mem_of_getElem? (i := 123) rfl) rfl
theorem lk_L_101 : Cond.methodLink RL 101 yX10_heir ∈ tbG := tb_5 (List.mem_of_getElem? (i := 124) rfl) rfl
theorem im_X10_heir : Cond.instanceMethod yX10_heir ∈ tbG := tb_5 (List.mem_of_getElem? (i := 125) rfl) rfl
theorem se_X10_heir : Cond.selects RX10 yX10_heir yX10_heir ∈ tbG := tb_5 (List.mem_of_getElem? (i := 126) rfl) rfl
theorem cd_X10_heir : Cond.code yX10_heir cX10_heir 3 (some .int) ∈ tbG := tb_5 (List.mem_of_getElem? (i := 127) rfl) rfl
theorem lk_X10_264 : Cond.methodLink RX10 264 yX1_inherit ∈ tbG := tb_5 (List.mem_of_getElem? (i := 128) rfl) rfl
theorem im_X1_inherit : Cond.instanceMethod yX1_inherit ∈ tbG := tb_5 (List.mem_of_getElem? (i := 129) rfl) rfl
theorem se_X1_inherit : Cond.selects RX1 yX1_inherit yX1_inherit ∈ tbG := tb_5 (List.mem_of_getElem? (i := 130) rfl) rfl
theorem cd_X1_inherit : Cond.code yX1_inherit cX1_inherit 7 (some .int) ∈ tbG := tb_5 (List.mem_of_getElem? (i := 131) rfl) rfl
theorem lk_X1_150 : Cond.methodLink RX1 150 yJ9_max_7cf53 ∈ tbG := tb_5 (List.mem_of_getElem? (i := 132) rfl) rfl
theorem lk_X1_155 : Cond.methodLink RX1 155 yX2_titlesOf ∈ tbG := tb_5 (List.mem_of_getElem? (i := 133) rfl) rfl
theorem lk_X1_158 : Cond.methodLink RX1 158 yX9_bestSet ∈ tbG := tb_5 (List.mem_of_getElem? (i := 134) rfl) rfl
theorem lk_X1_164 : Cond.methodLink RX1 164 yX2_pourLoose ∈ tbG := tb_5 (List.mem_of_getElem? (i := 135) rfl) rfl
theorem im_X2_pourLoose : Cond.instanceMethod yX2_pourLoose ∈ tbG := tb_5 (List.mem_of_getElem? (i := 136) rfl) rfl
theorem se_X2_pourLoose : Cond.selects RX2 yX2_pourLoose yX2_pourLoose ∈ tbG := tb_5 (List.mem_of_getElem? (i := 137) rfl) rfl
theorem cd_X2_pourLoose : Cond.code yX2_pourLoose cX2_pourLoose 4 none ∈ tbG := tb_5 (List.mem_of_getElem? (i := 138) rfl) rfl
theorem lk_X1_167 : Cond.methodLink RX1 167 yX4_ouncesOfSet ∈ tbG := tb_5 (List.mem_of_getElem? (i := 139) rfl) rfl
theorem lk_L_105 : Cond.methodLink RL 105 yX10_years ∈ tbG := tb_5 (List.mem_of_getElem? (i := 140) rfl) rfl
theorem im_X10_years : Cond.instanceMethod yX10_years ∈ tbG := tb_5 (List.mem_of_getElem? (i := 141) rfl) rfl
theorem se_X10_years : Cond.selects RX10 yX10_years yX10_years ∈ tbG := tb_5 (List.mem_of_getElem? (i := 142) rfl) rfl
theorem cd_X10_years : Cond.code yX10_years cX10_years 2 (some .int) ∈ tbG := tb_5 (List.mem_of_getElem? (i := 143) rfl) rfl
theorem lk_X10_267 : Cond.methodLink RX10 267 yX1_passYears ∈ tbG := tb_5 (List.mem_of_getElem? (i := 144) rfl) rfl
theorem im_X1_passYears : Cond.instanceMethod yX1_passYears ∈ tbG := tb_5 (List.mem_of_getElem? (i := 145) rfl) rfl
theorem se_X1_passYears : Cond.selects RX1 yX1_passYears yX1_passYears ∈ tbG := tb_5 (List.mem_of_getElem? (i := 146) rfl) rfl
theorem cd_X1_passYears : Cond.code yX1_passYears cX1_passYears 5 (some .int) ∈ tbG := tb_5 (List.mem_of_getElem? (i := 147) rfl) rfl
theorem lk_X1_170 : Cond.methodLink RX1 170 yJ9_min_7cf53 ∈ tbG := tb_5 (List.mem_of_getElem? (i := 148) rfl) rfl
theorem lk_X1_176 : Cond.methodLink RX1 176 yX1_lighten ∈ tbG := tb_5 (List.mem_of_getElem? (i := 149) rfl) rfl
theorem im_X1_lighten : Cond.instanceMethod yX1_lighten ∈ tbG := tb_5 (List.mem_of_getElem? (i := 151) rfl) rfl
theorem cd_X1_lighten : Cond.code yX1_lighten cX1_lighten 6 (some .int) ∈ tbG := tb_5 (List.mem_of_getElem? (i := 152) rfl) rfl
theorem lk_X1_179 : Cond.methodLink RX1 179 yX1_dropTitle ∈ tbG := tb_5 (List.mem_of_getElem? (i := 153) rfl) rfl
theorem lk_L_109 : Cond.methodLink RL 109 yX10_feast ∈ tbG := tb_5 (List.mem_of_getElem? (i := 154) rfl) rfl
theorem im_X10_feast : Cond.instanceMethod yX10_feast ∈ tbG := tb_5 (List.mem_of_getElem? (i := 155) rfl) rfl
theorem se_X10_feast : Cond.selects RX10 yX10_feast yX10_feast ∈ tbG := tb_5 (List.mem_of_getElem? (i := 156) rfl) rfl
theorem cd_X10_feast : Cond.code yX10_feast cX10_feast 4 (some .int) ∈ tbG := tb_5 (List.mem_of_getElem? (i := 157) rfl) rfl
theorem lk_X10_270 : Cond.methodLink RX10 270 yX1_gainable ∈ tbG := tb_5 (List.mem_of_getElem? (i := 158) rfl) rfl
theorem im_X1_gainable : Cond.instanceMethod yX1_gainable ∈ tbG := tb_5 (List.mem_of_getElem? (i := 159) rfl) rfl
theorem se_X1_gainable : Cond.selects RX1 yX1_gainable yX1_gainable ∈ tbG := tb_5 (List.mem_of_getElem? (i := 160) rfl) rfl
theorem cd_X1_gainable : Cond.code yX1_gainable cX1_gainable 4 (some .int) ∈ tbG := tb_5 (List.mem_of_getElem? (i := 161) rfl) rfl
theorem lk_X10_273 : Cond.methodLink RX10 273 yX1_draw ∈ tbG := tb_5 (List.mem_of_getElem? (i := 162) rfl) rfl
theorem im_X1_draw : Cond.instanceMethod yX1_draw ∈ tbG := tb_5 (List.mem_of_getElem? (i := 163) rfl) rfl
theorem se_X1_draw : Cond.selects RX1 yX1_draw yX1_draw ∈ tbG := tb_5 (List.mem_of_getElem? (i := 164) rfl) rfl
theorem cd_X1_draw : Cond.code yX1_draw cX1_draw 2 (some .int) ∈ tbG := tb_5 (List.mem_of_getElem? (i := 165) rfl) rfl
theorem lk_X1_182 : Cond.constantLong RX1 182 (1103515245) ∈ tbG := tb_5 (List.mem_of_getElem? (i := 166) rfl) rfl
theorem lk_X1_184 : Cond.constantLong RX1 184 (12345) ∈ tbG := tb_5 (List.mem_of_getElem? (i := 167) rfl) rfl
theorem lk_X1_186 : Cond.constantLong RX1 186 (2147483648) ∈ tbG := tb_5 (List.mem_of_getElem? (i := 168) rfl) rfl
theorem lk_X1_188 : Cond.constantLong RX1 188 (64) ∈ tbG := tb_5 (List.mem_of_getElem? (i := 169) rfl) rfl
theorem lk_X10_276 : Cond.methodLink RX10 276 yX1_gainableAt ∈ tbG := tb_5 (List.mem_of_getElem? (i := 170) rfl) rfl
theorem im_X1_gainableAt : Cond.instanceMethod yX1_gainableAt ∈ tbG := tb_5 (List.mem_of_getElem? (i := 171) rfl) rfl
theorem se_X1_gainableAt : Cond.selects RX1 yX1_gainableAt yX1_gainableAt ∈ tbG := tb_5 (List.mem_of_getElem? (i := 172) rfl) rfl
theorem cd_X1_gainableAt : Cond.code yX1_gainableAt cX1_gainableAt 5 (some .int) ∈ tbG := tb_5 (List.mem_of_getElem? (i := 173) rfl) rfl
theorem lk_L_113 : Cond.methodLink RL 113 yX10_seed ∈ tbG := tb_5 (List.mem_of_getElem? (i := 174) rfl) rfl
theorem im_X10_seed : Cond.instanceMethod yX10_seed ∈ tbG := tb_5 (List.mem_of_getElem? (i := 175) rfl) rfl
theorem se_X10_seed : Cond.selects RX10 yX10_seed yX10_seed ∈ tbG := tb_5 (List.mem_of_getElem? (i := 176) rfl) rfl
theorem cd_X10_seed : Cond.code yX10_seed cX10_seed 2 (some .boolean) ∈ tbG := tb_5 (List.mem_of_getElem? (i := 177) rfl) rfl
theorem lk_X10_279 : Cond.methodLink RX10 279 yX1_sow ∈ tbG := tb_5 (List.mem_of_getElem? (i := 178) rfl) rfl
theorem im_X1_sow : Cond.instanceMethod yX1_sow ∈ tbG := tb_5 (List.mem_of_getElem? (i := 179) rfl) rfl
theorem se_X1_sow : Cond.selects RX1 yX1_sow yX1_sow ∈ tbG := tb_5 (List.mem_of_getElem? (i := 180) rfl) rfl
theorem cd_X1_sow : Cond.code yX1_sow cX1_sow 2 (some .boolean) ∈ tbG := tb_5 (List.mem_of_getElem? (i := 181) rfl) rfl
theorem lk_L_117 : Cond.methodLink RL 117 yX10_signed ∈ tbG := tb_5 (List.mem_of_getElem? (i := 182) rfl) rfl
theorem im_X10_signed : Cond.instanceMethod yX10_signed ∈ tbG := tb_5 (List.mem_of_getElem? (i := 183) rfl) rfl
theorem se_X10_signed : Cond.selects RX10 yX10_signed yX10_signed ∈ tbG := tb_5 (List.mem_of_getElem? (i := 184) rfl) rfl
theorem cd_X10_signed : Cond.code yX10_signed cX10_signed 3 (some .int) ∈ tbG := tb_5 (List.mem_of_getElem? (i := 185) rfl) rfl
theorem lk_X10_282 : Cond.methodLink RX10 282 yX2_signers ∈ tbG := tb_5 (List.mem_of_getElem? (i := 186) rfl) rfl
theorem im_X2_signers : Cond.instanceMethod yX2_signers ∈ tbG := tb_5 (List.mem_of_getElem? (i := 187) rfl) rfl
theorem se_X2_signers : Cond.selects RX2 yX2_signers yX2_signers ∈ tbG := tb_5 (List.mem_of_getElem? (i := 188) rfl) rfl
theorem cd_X2_signers : Cond.code yX2_signers cX2_signers 5 (some .int) ∈ tbG := tb_5 (List.mem_of_getElem? (i := 189) rfl) rfl
theorem lk_X2_116 : Cond.methodLink RX2 116 yX7_get ∈ tbG := tb_5 (List.mem_of_getElem? (i := 190) rfl) rfl
theorem im_X7_get : Cond.instanceMethod yX7_get ∈ tbG := tb_5 (List.mem_of_getElem? (i := 191) rfl) rfl
theorem se_X7_get : Cond.selects RX7 yX7_get yX7_get ∈ tbG := tb_5 (List.mem_of_getElem? (i := 192) rfl) rfl
theorem cd_X7_get : Cond.code yX7_get cX7_get 3 (some .int) ∈ tbG := tb_5 (List.mem_of_getElem? (i := 193) rfl) rfl
theorem lk_L_121 : Cond.methodLink RL 121 yX10_span ∈ tbG := tb_5 (List.mem_of_getElem? (i := 194) rfl) rfl
theorem im_X10_span : Cond.instanceMethod yX10_span ∈ tbG := tb_5 (List.mem_of_getElem? (i := 195) rfl) rfl
theorem se_X10_span : Cond.selects RX10 yX10_span yX10_span ∈ tbG := tb_5 (List.mem_of_getElem? (i := 196) rfl) rfl
theorem cd_X10_span : Cond.code yX10_span cX10_span 3 (some .int) ∈ tbG := tb_5 (List.mem_of_getElem? (i := 197) rfl) rfl
theorem lk_X10_288 : Cond.methodLink RX10 288 yX7_get ∈ tbG := tb_5 (List.mem_of_getElem? (i := 198) rfl) rfl
theorem lk_L_125 : Cond.methodLink RL 125 yX10_moved ∈ tbG := tb_5 (List.mem_of_getElem? (i := 199) rfl) rfl
theorem im_X10_moved : Cond.instanceMethod yX10_moved ∈ tbG := tb_5 (List.mem_of_getElem? (i := 200) rfl) rfl
theorem se_X10_moved : Cond.selects RX10 yX10_moved yX10_moved ∈ tbG := tb_5 (List.mem_of_getElem? (i := 201) rfl) rfl
theorem cd_X10_moved : Cond.code yX10_moved cX10_moved 3 (some .int) ∈ tbG := tb_5 (List.mem_of_getElem? (i := 202) rfl) rfl
theorem lk_L_129 : Cond.methodLink RL 129 yX10_share ∈ tbG := tb_5 (List.mem_of_getElem? (i := 203) rfl) rfl
theorem im_X10_share : Cond.instanceMethod yX10_share ∈ tbG := tb_5 (List.mem_of_getElem? (i := 204) rfl) rfl
theorem se_X10_share : Cond.selects RX10 yX10_share yX10_share ∈ tbG := tb_5 (List.mem_of_getElem? (i := 205) rfl) rfl
theorem cd_X10_share : Cond.code yX10_share cX10_share 4 (some .int) ∈ tbG := tb_5 (List.mem_of_getElem? (i := 206) rfl) rfl
theorem lk_X10_289 : Cond.methodLink RX10 289 yX4_shareOf ∈ tbG := tb_5 (List.mem_of_getElem? (i := 207) rfl) rfl
theorem im_X4_shareOf : Cond.instanceMethod yX4_shareOf ∈ tbG := tb_5 (List.mem_of_getElem? (i := 208) rfl) rfl
theorem se_X4_shareOf : Cond.selects RX4 yX4_shareOf yX4_shareOf ∈ tbG := tb_5 (List.mem_of_getElem? (i := 209) rfl) rfl
theorem cd_X4_shareOf : Cond.code yX4_shareOf cX4_shareOf 7 (some .int) ∈ tbG := tb_5 (List.mem_of_getElem? (i := 210) rfl) rfl
theorem lk_X4_88 : Cond.methodLink RX4 88 yX4_likely ∈ tbG := tb_5 (List.mem_of_getElem? (i := 211) rfl) rfl
theorem im_X4_likely : Cond.instanceMethod yX4_likely ∈ tbG := tb_5 (List.mem_of_getElem? (i := 213) rfl) rfl
theorem cd_X4_likely : Cond.code yX4_likely cX4_likely 8 (some .long) ∈ tbG := tb_5 (List.mem_of_getElem? (i := 214) rfl) rfl
theorem lk_X4_94 : Cond.constantLong RX4 94 (1000000000) ∈ tbG := tb_5 (List.mem_of_getElem? (i := 215) rfl) rfl
theorem lk_X4_96 : Cond.constantLong RX4 96 (100) ∈ tbG := tb_5 (List.mem_of_getElem? (i := 216) rfl) rfl
theorem lk_X4_92 : Cond.constantLong RX4 92 (1000) ∈ tbG := tb_5 (List.mem_of_getElem? (i := 217) rfl) rfl
theorem lk_L_133 : Cond.methodLink RL 133 yX10_bullets ∈ tbG := tb_5 (List.mem_of_getElem? (i := 218) rfl) rfl
theorem im_X10_bullets : Cond.instanceMethod yX10_bullets ∈ tbG := tb_5 (List.mem_of_getElem? (i := 219) rfl) rfl
theorem se_X10_bullets : Cond.selects RX10 yX10_bullets yX10_bullets ∈ tbG := tb_5 (List.mem_of_getElem? (i := 220) rfl) rfl
theorem cd_X10_bullets : Cond.code yX10_bullets cX10_bullets 3 (some .int) ∈ tbG := tb_5 (List.mem_of_getElem? (i := 221) rfl) rfl
theorem lk_X10_292 : Cond.constant RX10 292 (99999) ∈ tbG := tb_5 (List.mem_of_getElem? (i := 222) rfl) rfl
theorem lk_X10_296 : Cond.methodLink RX10 296 yX9_seekBullets ∈ tbG := tb_5 (List.mem_of_getElem? (i := 223) rfl) rfl
theorem im_X9_seekBullets : Cond.instanceMethod yX9_seekBullets ∈ tbG := tb_5 (List.mem_of_getElem? (i := 224) rfl) rfl
theorem se_X9_seekBullets : Cond.selects RX9 yX9_seekBullets yX9_seekBullets ∈ tbG := tb_5 (List.mem_of_getElem? (i := 225) rfl) rfl
theorem cd_X9_seekBullets : Cond.code yX9_seekBullets cX9_seekBullets 6 none ∈ tbG := tb_5 (List.mem_of_getElem? (i := 226) rfl) rfl
theorem lk_X9_83 : Cond.methodLink RX9 83 yJ9_max_7cf53 ∈ tbG := tb_5 (List.mem_of_getElem? (i := 227) rfl) rfl
theorem lk_X9_92 : Cond.methodLink RX9 92 yX9_collect ∈ tbG := tb_5 (List.mem_of_getElem? (i := 228) rfl) rfl
theorem im_X9_collect : Cond.instanceMethod yX9_collect ∈ tbG := tb_5 (List.mem_of_getElem? (i := 230) rfl) rfl
theorem cd_X9_collect : Cond.code yX9_collect cX9_collect 5 none ∈ tbG := tb_5 (List.mem_of_getElem? (i := 231) rfl) rfl
theorem lk_L_137 : Cond.methodLink RL 137 yX10_row ∈ tbG := tb_5 (List.mem_of_getElem? (i := 232) rfl) rfl
theorem im_X10_row : Cond.instanceMethod yX10_row ∈ tbG := tb_5 (List.mem_of_getElem? (i := 233) rfl) rfl
theorem se_X10_row : Cond.selects RX10 yX10_row yX10_row ∈ tbG := tb_5 (List.mem_of_getElem? (i := 234) rfl) rfl
theorem cd_X10_row : Cond.code yX10_row cX10_row 5 (some .int) ∈ tbG := tb_5 (List.mem_of_getElem? (i := 235) rfl) rfl
theorem lk_X10_306 : Cond.methodLink RX10 306 yX4_pairLength ∈ tbG := tb_5 (List.mem_of_getElem? (i := 236) rfl) rfl
theorem im_X4_pairLength : Cond.instanceMethod yX4_pairLength ∈ tbG := tb_5 (List.mem_of_getElem? (i := 237) rfl) rfl
theorem se_X4_pairLength : Cond.selects RX4 yX4_pairLength yX4_pairLength ∈ tbG := tb_5 (List.mem_of_getElem? (i := 238) rfl) rfl
theorem cd_X4_pairLength : Cond.code yX4_pairLength cX4_pairLength 3 (some .int) ∈ tbG := tb_5 (List.mem_of_getElem? (i := 239) rfl) rfl
theorem lk_X10_309 : Cond.methodLink RX10 309 yX4_shared ∈ tbG := tb_6 (List.mem_of_getElem? (i := 0) rfl) rfl
theorem im_X4_shared : Cond.instanceMethod yX4_shared ∈ tbG := tb_6 (List.mem_of_getElem? (i := 1) rfl) rfl
theorem se_X4_shared : Cond.selects RX4 yX4_shared yX4_shared ∈ tbG := tb_6 (List.mem_of_getElem? (i := 2) rfl) rfl
theorem cd_X4_shared : Cond.code yX4_shared cX4_shared 5 (some .int) ∈ tbG := tb_6 (List.mem_of_getElem? (i := 3) rfl) rfl
theorem lk_X4_98 : Cond.methodLink RX4 98 yX4_isWithin ∈ tbG := tb_6 (List.mem_of_getElem? (i := 4) rfl) rfl
theorem sm_X4_isWithin : Cond.static yX4_isWithin ∈ tbG := tb_6 (List.mem_of_getElem? (i := 5) rfl) rfl
theorem cd_X4_isWithin : Cond.code yX4_isWithin cX4_isWithin 5 (some .boolean) ∈ tbG := tb_6 (List.mem_of_getElem? (i := 6) rfl) rfl
theorem lk_X4_113 : Cond.methodLink RX4 113 yX4_start ∈ tbG := tb_6 (List.mem_of_getElem? (i := 7) rfl) rfl
theorem sm_X4_start : Cond.static yX4_start ∈ tbG := tb_6 (List.mem_of_getElem? (i := 8) rfl) rfl
theorem cd_X4_start : Cond.code yX4_start cX4_start 2 (some .int) ∈ tbG := tb_6 (List.mem_of_getElem? (i := 9) rfl) rfl
theorem lk_X4_102 : Cond.methodLink RX4 102 yJ9_min_7cf53 ∈ tbG := tb_6 (List.mem_of_getElem? (i := 10) rfl) rfl
theorem lk_X4_107 : Cond.methodLink RX4 107 yX4_joint ∈ tbG := tb_6 (List.mem_of_getElem? (i := 11) rfl) rfl
theorem sm_X4_joint : Cond.static yX4_joint ∈ tbG := tb_6 (List.mem_of_getElem? (i := 12) rfl) rfl
theorem cd_X4_joint : Cond.code yX4_joint cX4_joint 4 (some .int) ∈ tbG := tb_6 (List.mem_of_getElem? (i := 13) rfl) rfl
theorem lk_X4_110 : Cond.methodLink RX4 110 yJ9_max_7cf53 ∈ tbG := tb_6 (List.mem_of_getElem? (i := 14) rfl) rfl
theorem lk_X10_312 : Cond.methodLink RX10 312 yX4_rowOunces ∈ tbG := tb_6 (List.mem_of_getElem? (i := 15) rfl) rfl
theorem im_X4_rowOunces : Cond.instanceMethod yX4_rowOunces ∈ tbG := tb_6 (List.mem_of_getElem? (i := 16) rfl) rfl
theorem se_X4_rowOunces : Cond.selects RX4 yX4_rowOunces yX4_rowOunces ∈ tbG := tb_6 (List.mem_of_getElem? (i := 17) rfl) rfl
theorem cd_X4_rowOunces : Cond.code yX4_rowOunces cX4_rowOunces 10 (some .int) ∈ tbG := tb_6 (List.mem_of_getElem? (i := 18) rfl) rfl
theorem lk_L_141 : Cond.methodLink RL 141 yX10_goings ∈ tbG := tb_6 (List.mem_of_getElem? (i := 19) rfl) rfl
theorem im_X10_goings : Cond.instanceMethod yX10_goings ∈ tbG := tb_6 (List.mem_of_getElem? (i := 20) rfl) rfl
theorem se_X10_goings : Cond.selects RX10 yX10_goings yX10_goings ∈ tbG := tb_6 (List.mem_of_getElem? (i := 21) rfl) rfl
theorem cd_X10_goings : Cond.code yX10_goings cX10_goings 3 (some .int) ∈ tbG := tb_6 (List.mem_of_getElem? (i := 22) rfl) rfl
theorem lk_X10_315 : Cond.methodLink RX10 315 yX9_fewestGroups ∈ tbG := tb_6 (List.mem_of_getElem? (i := 23) rfl) rfl
theorem im_X9_fewestGroups : Cond.instanceMethod yX9_fewestGroups ∈ tbG := tb_6 (List.mem_of_getElem? (i := 24) rfl) rfl
theorem se_X9_fewestGroups : Cond.selects RX9 yX9_fewestGroups yX9_fewestGroups ∈ tbG := tb_6 (List.mem_of_getElem? (i := 25) rfl) rfl
theorem cd_X9_fewestGroups : Cond.code yX9_fewestGroups cX9_fewestGroups 6 (some .int) ∈ tbG := tb_6 (List.mem_of_getElem? (i := 26) rfl) rfl
theorem lk_X9_99 : Cond.methodLink RX9 99 yX2_loadOf ∈ tbG := tb_6 (List.mem_of_getElem? (i := 27) rfl) rfl
theorem lk_X9_107 : Cond.methodLink RX9 107 yX9_place ∈ tbG := tb_6 (List.mem_of_getElem? (i := 28) rfl) rfl
theorem im_X9_place : Cond.instanceMethod yX9_place ∈ tbG := tb_6 (List.mem_of_getElem? (i := 30) rfl) rfl
theorem cd_X9_place : Cond.code yX9_place cX9_place 4 none ∈ tbG := tb_6 (List.mem_of_getElem? (i := 31) rfl) rfl
theorem lk_L_145 : Cond.methodLink RL 145 yX10_common ∈ tbG := tb_6 (List.mem_of_getElem? (i := 32) rfl) rfl
theorem im_X10_common : Cond.instanceMethod yX10_common ∈ tbG := tb_6 (List.mem_of_getElem? (i := 33) rfl) rfl
theorem se_X10_common : Cond.selects RX10 yX10_common yX10_common ∈ tbG := tb_6 (List.mem_of_getElem? (i := 34) rfl) rfl
theorem cd_X10_common : Cond.code yX10_common cX10_common 3 (some .int) ∈ tbG := tb_6 (List.mem_of_getElem? (i := 35) rfl) rfl
theorem lk_X10_319 : Cond.methodLink RX10 319 yX2_sharedOunces ∈ tbG := tb_6 (List.mem_of_getElem? (i := 36) rfl) rfl
theorem im_X2_sharedOunces : Cond.instanceMethod yX2_sharedOunces ∈ tbG := tb_6 (List.mem_of_getElem? (i := 37) rfl) rfl
theorem se_X2_sharedOunces : Cond.selects RX2 yX2_sharedOunces yX2_sharedOunces ∈ tbG := tb_6 (List.mem_of_getElem? (i := 38) rfl) rfl
theorem cd_X2_sharedOunces : Cond.code yX2_sharedOunces cX2_sharedOunces 5 (some .int) ∈ tbG := tb_6 (List.mem_of_getElem? (i := 39) rfl) rfl
theorem lk_L_149 : Cond.methodLink RL 149 yX10_image ∈ tbG := tb_6 (List.mem_of_getElem? (i := 40) rfl) rfl
theorem im_X10_image : Cond.instanceMethod yX10_image ∈ tbG := tb_6 (List.mem_of_getElem? (i := 41) rfl) rfl
theorem se_X10_image : Cond.selects RX10 yX10_image yX10_image ∈ tbG := tb_6 (List.mem_of_getElem? (i := 42) rfl) rfl
theorem cd_X10_image : Cond.code yX10_image cX10_image 1 (some .int) ∈ tbG := tb_6 (List.mem_of_getElem? (i := 43) rfl) rfl
theorem lk_X10_322 : Cond.methodLink RX10 322 yX3_write ∈ tbG := tb_6 (List.mem_of_getElem? (i := 44) rfl) rfl
theorem im_X3_write : Cond.instanceMethod yX3_write ∈ tbG := tb_6 (List.mem_of_getElem? (i := 45) rfl) rfl
theorem se_X3_write : Cond.selects RX3 yX3_write yX3_write ∈ tbG := tb_6 (List.mem_of_getElem? (i := 46) rfl) rfl
theorem cd_X3_write : Cond.code yX3_write cX3_write 3 none ∈ tbG := tb_6 (List.mem_of_getElem? (i := 47) rfl) rfl
theorem lk_X3_24 : Cond.methodLink RX3 24 yX3_put ∈ tbG := tb_6 (List.mem_of_getElem? (i := 48) rfl) rfl
theorem im_X3_put : Cond.instanceMethod yX3_put ∈ tbG := tb_6 (List.mem_of_getElem? (i := 50) rfl) rfl
theorem cd_X3_put : Cond.code yX3_put cX3_put 4 none ∈ tbG := tb_6 (List.mem_of_getElem? (i := 51) rfl) rfl
theorem lk_X3_43 : Cond.methodLink RX3 43 yX2_titlesOf ∈ tbG := tb_6 (List.mem_of_getElem? (i := 52) rfl) rfl
theorem lk_X3_47 : Cond.methodLink RX3 47 yX3_putLetters ∈ tbG := tb_6 (List.mem_of_getElem? (i := 53) rfl) rfl
theorem im_X3_putLetters : Cond.instanceMethod yX3_putLetters ∈ tbG := tb_6 (List.mem_of_getElem? (i := 55) rfl) rfl
theorem cd_X3_putLetters : Cond.code yX3_putLetters cX3_putLetters 4 none ∈ tbG := tb_6 (List.mem_of_getElem? (i := 56) rfl) rfl
theorem lk_X3_64 : Cond.methodLink RX3 64 yX2_count ∈ tbG := tb_6 (List.mem_of_getElem? (i := 57) rfl) rfl
theorem lk_X3_60 : Cond.methodLink RX3 60 yX3_seal ∈ tbG := tb_6 (List.mem_of_getElem? (i := 58) rfl) rfl
theorem sm_X3_seal : Cond.static yX3_seal ∈ tbG := tb_6 (List.mem_of_getElem? (i := 59) rfl) rfl
theorem cd_X3_seal : Cond.code yX3_seal cX3_seal 4 (some .int) ∈ tbG := tb_6 (List.mem_of_getElem? (i := 60) rfl) rfl
theorem lk_L_153 : Cond.methodLink RL 153 yX10_octet ∈ tbG := tb_6 (List.mem_of_getElem? (i := 61) rfl) rfl
theorem im_X10_octet : Cond.instanceMethod yX10_octet ∈ tbG := tb_6 (List.mem_of_getElem? (i := 62) rfl) rfl
theorem se_X10_octet : Cond.selects RX10 yX10_octet yX10_octet ∈ tbG := tb_6 (List.mem_of_getElem? (i := 63) rfl) rfl
theorem cd_X10_octet : Cond.code yX10_octet cX10_octet 2 (some .int) ∈ tbG := tb_6 (List.mem_of_getElem? (i := 64) rfl) rfl
theorem lk_L_157 : Cond.methodLink RL 157 yX10_on ∈ tbG := tb_6 (List.mem_of_getElem? (i := 65) rfl) rfl
theorem im_X10_on : Cond.instanceMethod yX10_on ∈ tbG := tb_6 (List.mem_of_getElem? (i := 66) rfl) rfl
theorem se_X10_on : Cond.selects RX10 yX10_on yX10_on ∈ tbG := tb_6 (List.mem_of_getElem? (i := 67) rfl) rfl
theorem cd_X10_on : Cond.code yX10_on cX10_on 2 (some .boolean) ∈ tbG := tb_6 (List.mem_of_getElem? (i := 68) rfl) rfl
theorem lk_X10_332 : Cond.methodLink RX10 332 yX3_fits ∈ tbG := tb_6 (List.mem_of_getElem? (i := 69) rfl) rfl
theorem sm_X3_fits : Cond.static yX3_fits ∈ tbG := tb_6 (List.mem_of_getElem? (i := 70) rfl) rfl
theorem cd_X3_fits : Cond.code yX3_fits cX3_fits 5 (some .boolean) ∈ tbG := tb_6 (List.mem_of_getElem? (i := 71) rfl) rfl
theorem lk_X3_72 : Cond.methodLink RX3 72 yX3_riverStart ∈ tbG := tb_6 (List.mem_of_getElem? (i := 72) rfl) rfl
theorem sm_X3_riverStart : Cond.static yX3_riverStart ∈ tbG := tb_6 (List.mem_of_getElem? (i := 73) rfl) rfl
theorem cd_X3_riverStart : Cond.code yX3_riverStart cX3_riverStart 1 (some .int) ∈ tbG := tb_6 (List.mem_of_getElem? (i := 74) rfl) rfl
theorem lk_X3_68 : Cond.methodLink RX3 68 yX3_heapStart ∈ tbG := tb_6 (List.mem_of_getElem? (i := 75) rfl) rfl
theorem sm_X3_heapStart : Cond.static yX3_heapStart ∈ tbG := tb_6 (List.mem_of_getElem? (i := 76) rfl) rfl
theorem cd_X3_heapStart : Cond.code yX3_heapStart cX3_heapStart 1 (some .int) ∈ tbG := tb_6 (List.mem_of_getElem? (i := 77) rfl) rfl
theorem lk_X3_75 : Cond.methodLink RX3 75 yX3_number ∈ tbG := tb_6 (List.mem_of_getElem? (i := 78) rfl) rfl
theorem sm_X3_number : Cond.static yX3_number ∈ tbG := tb_6 (List.mem_of_getElem? (i := 79) rfl) rfl
theorem cd_X3_number : Cond.code yX3_number cX3_number 5 (some .int) ∈ tbG := tb_6 (List.mem_of_getElem? (i := 80) rfl) rfl
theorem lk_X3_79 : Cond.methodLink RX3 79 yX3_hasKnownTitles ∈ tbG := tb_6 (List.mem_of_getElem? (i := 81) rfl) rfl
theorem sm_X3_hasKnownTitles : Cond.static yX3_hasKnownTitles ∈ tbG := tb_6 (List.mem_of_getElem? (i := 82) rfl) rfl
theorem cd_X3_hasKnownTitles : Cond.code yX3_hasKnownTitles cX3_hasKnownTitles 3 (some .boolean) ∈ tbG := tb_6 (List.mem_of_getElem? (i := 83) rfl) rfl
theorem lk_X3_90 : Cond.methodLink RX3 90 yX4_allTitles ∈ tbG := tb_6 (List.mem_of_getElem? (i := 84) rfl) rfl
theorem lk_X3_83 : Cond.methodLink RX3 83 yX3_hasRightBullets ∈ tbG := tb_6 (List.mem_of_getElem? (i := 85) rfl) rfl
theorem sm_X3_hasRightBullets : Cond.static yX3_hasRightBullets ∈ tbG := tb_6 (List.mem_of_getElem? (i := 86) rfl) rfl
theorem cd_X3_hasRightBullets : Cond.code yX3_hasRightBullets cX3_hasRightBullets 4 (some .boolean) ∈ tbG := tb_6 (List.mem_of_getElem? (i := 87) rfl) rfl
theorem lk_X3_87 : Cond.methodLink RX3 87 yX3_isLightEnough ∈ tbG := tb_6 (List.mem_of_getElem? (i := 88) rfl) rfl
theorem sm_X3_isLightEnough : Cond.static yX3_isLightEnough ∈ tbG := tb_6 (List.mem_of_getElem? (i := 89) rfl) rfl
theorem cd_X3_isLightEnough : Cond.code yX3_isLightEnough cX3_isLightEnough 15 (some .boolean) ∈ tbG := tb_6 (List.mem_of_getElem? (i := 90) rfl) rfl
theorem lk_X3_94 : Cond.methodLink RX3 94 yX4_ouncesOfSet ∈ tbG := tb_6 (List.mem_of_getElem? (i := 91) rfl) rfl
theorem lk_X3_97 : Cond.methodLink RX3 97 yX3_lettersOfSet ∈ tbG := tb_6 (List.mem_of_getElem? (i := 92) rfl) rfl
theorem sm_X3_lettersOfSet : Cond.static yX3_lettersOfSet ∈ tbG := tb_6 (List.mem_of_getElem? (i := 93) rfl) rfl
theorem cd_X3_lettersOfSet : Cond.code yX3_lettersOfSet cX3_lettersOfSet 4 (some .int) ∈ tbG := tb_6 (List.mem_of_getElem? (i := 94) rfl) rfl
theorem lk_X3_111 : Cond.methodLink RX3 111 yX8_name ∈ tbG := tb_6 (List.mem_of_getElem? (i := 95) rfl) rfl
theorem lk_X3_114 : Cond.methodLink RX3 114 yX8_lengthOf ∈ tbG := tb_6 (List.mem_of_getElem? (i := 96) rfl) rfl
theorem lk_X3_101 : Cond.methodLink RX3 101 yX4_ouncesOf ∈ tbG := tb_6 (List.mem_of_getElem? (i := 97) rfl) rfl
theorem lk_X3_104 : Cond.constantLong RX3 104 (9999999) ∈ tbG := tb_6 (List.mem_of_getElem? (i := 98) rfl) rfl
theorem lk_X3_106 : Cond.constantLong RX3 106 (9999) ∈ tbG := tb_6 (List.mem_of_getElem? (i := 99) rfl) rfl
theorem lk_X10_336 : Cond.methodLink RX10 336 yX3_restore ∈ tbG := tb_6 (List.mem_of_getElem? (i := 100) rfl) rfl
theorem sm_X3_restore : Cond.static yX3_restore ∈ tbG := tb_6 (List.mem_of_getElem? (i := 101) rfl) rfl
theorem cd_X3_restore : Cond.code yX3_restore cX3_restore 4 none ∈ tbG := tb_6 (List.mem_of_getElem? (i := 102) rfl) rfl
theorem lk_X3_119 : Cond.methodLink RX3 119 yX3_restoreLetters ∈ tbG := tb_6 (List.mem_of_getElem? (i := 103) rfl) rfl
theorem sm_X3_restoreLetters : Cond.static yX3_restoreLetters ∈ tbG := tb_6 (List.mem_of_getElem? (i := 104) rfl) rfl
theorem cd_X3_restoreLetters : Cond.code yX3_restoreLetters cX3_restoreLetters 6 none ∈ tbG := tb_6 (List.mem_of_getElem? (i := 105) rfl) rfl
theorem lk_X3_131 : Cond.methodLink RX3 131 yX2_change ∈ tbG := tb_6 (List.mem_of_getElem? (i := 106) rfl) rfl
theorem lk_X3_123 : Cond.methodLink RX3 123 yJ9_min_7cf53 ∈ tbG := tb_6 (List.mem_of_getElem? (i := 107) rfl) rfl
theorem lk_X3_128 : Cond.methodLink RX3 128 yX2_bearAnew ∈ tbG := tb_6 (List.mem_of_getElem? (i := 108) rfl) rfl
theorem lk_L_162 : Cond.methodLink RL 162 yX10_status ∈ tbG := tb_6 (List.mem_of_getElem? (i := 109) rfl) rfl
theorem im_X10_status : Cond.instanceMethod yX10_status ∈ tbG := tb_6 (List.mem_of_getElem? (i := 110) rfl) rfl
theorem se_X10_status : Cond.selects RX10 yX10_status yX10_status ∈ tbG := tb_6 (List.mem_of_getElem? (i := 111) rfl) rfl
theorem cd_X10_status : Cond.code yX10_status cX10_status 2 (some .int) ∈ tbG := tb_6 (List.mem_of_getElem? (i := 112) rfl) rfl
theorem lk_L_10 : Cond.classLink RL 10 RX11 ∈ tbG := tb_6 (List.mem_of_getElem? (i := 113) rfl) rfl
theorem ins_X11 : Cond.instantiable RX11 73 ∈ tbG := tb_6 (List.mem_of_getElem? (i := 114) rfl) rfl
theorem lk_L_12 : Cond.methodLink RL 12 yX11_init ∈ tbG := tb_6 (List.mem_of_getElem? (i := 115) rfl) rfl
theorem im_X11_init : Cond.instanceMethod yX11_init ∈ tbG := tb_6 (List.mem_of_getElem? (i := 116) rfl) rfl
theorem cd_X11_init : Cond.code yX11_init cX11_init 2 none ∈ tbG := tb_6 (List.mem_of_getElem? (i := 117) rfl) rfl
theorem lk_X11_1 : Cond.methodLink RX11 1 objectInit ∈ tbG := tb_6 (List.mem_of_getElem? (i := 118) rfl) rfl
theorem lk_X11_7 : Cond.fieldLink RX11 7 "LeadNamesModel" "tape" "[I" ∈ tbG := tb_6 (List.mem_of_getElem? (i := 119) rfl) rfl
theorem lk_X11_13 : Cond.fieldLink RX11 13 "LeadNamesModel" "taped" "I" ∈ tbG := tb_6 (List.mem_of_getElem? (i := 120) rfl) rfl
theorem lk_X11_17 : Cond.fieldLink RX11 17 "LeadNamesModel" "size" "I" ∈ tbG := tb_6 (List.mem_of_getElem? (i := 121) rfl) rfl
theorem lk_X11_20 : Cond.fieldLink RX11 20 "LeadNamesModel" "sign" "I" ∈ tbG := tb_6 (List.mem_of_getElem? (i := 122) rfl) rfl
theorem lk_X11_23 : Cond.fieldLink RX11 23 "LeadNamesModel" "signAt" "I" ∈ tbG := tb_6 (List.mem_of_getElem? (i := 123) rfl) rfl
theorem lk_X11_26 : Cond.fieldLink RX11 26 "LeadNamesModel" "signEnd" "I" ∈ tbG := tb_6 (List.mem_of_getElem? (i := 124) rfl) rfl
theorem lk_X11_29 : Cond.fieldLink RX11 29 "LeadNamesModel" "value" "I" ∈ tbG := tb_6 (List.mem_of_getElem? (i := 125) rfl) rfl
theorem lk_X11_32 : Cond.fieldLink RX11 32 "LeadNamesModel" "word" "J" ∈ tbG := tb_6 (List.mem_of_getElem? (i := 126) rfl) rfl
theorem lk_X11_36 : Cond.fieldLink RX11 36 "LeadNamesModel" "faultKind" "I" ∈ tbG := tb_6 (List.mem_of_getElem? (i := 127) rfl) rfl
theorem lk_X11_39 : Cond.fieldLink RX11 39 "LeadNamesModel" "faultPlace" "I" ∈ tbG := tb_6 (List.mem_of_getElem? (i := 128) rfl) rfl
theorem lk_X11_42 : Cond.fieldLink RX11 42 "LeadNamesModel" "toldKind" "I" ∈ tbG := tb_6 (List.mem_of_getElem? (i := 129) rfl) rfl
theorem lk_X11_45 : Cond.fieldLink RX11 45 "LeadNamesModel" "toldPlace" "I" ∈ tbG := tb_6 (List.mem_of_getElem? (i := 130) rfl) rfl
theorem lk_X11_48 : Cond.fieldLink RX11 48 "LeadNamesModel" "bank" "I" ∈ tbG := tb_6 (List.mem_of_getElem? (i := 131) rfl) rfl
theorem lk_X11_51 : Cond.fieldLink RX11 51 "LeadNamesModel" "ounce" "[I" ∈ tbG := tb_6 (List.mem_of_getElem? (i := 132) rfl) rfl
theorem lk_X11_54 : Cond.fieldLink RX11 54 "LeadNamesModel" "persons" "[I" ∈ tbG := tb_6 (List.mem_of_getElem? (i := 133) rfl) rfl
theorem lk_X11_57 : Cond.fieldLink RX11 57 "LeadNamesModel" "personName" "[J" ∈ tbG := tb_6 (List.mem_of_getElem? (i := 134) rfl) rfl
theorem lk_X11_61 : Cond.fieldLink RX11 61 "LeadNamesModel" "born" "[I" ∈ tbG := tb_6 (List.mem_of_getElem? (i := 135) rfl) rfl
theorem lk_X11_64 : Cond.fieldLink RX11 64 "LeadNamesModel" "lifts" "[I" ∈ tbG := tb_6 (List.mem_of_getElem? (i := 136) rfl) rfl
theorem lk_X11_67 : Cond.fieldLink RX11 67 "LeadNamesModel" "dents" "[I" ∈ tbG := tb_6 (List.mem_of_getElem? (i := 137) rfl) rfl
theorem lk_X11_70 : Cond.fieldLink RX11 70 "LeadNamesModel" "coatTold" "[I" ∈ tbG := tb_6 (List.mem_of_getElem? (i := 138) rfl) rfl
theorem lk_X11_73 : Cond.fieldLink RX11 73 "LeadNamesModel" "titles" "[I" ∈ tbG := tb_6 (List.mem_of_getElem? (i := 139) rfl) rfl
theorem lk_X11_76 : Cond.fieldLink RX11 76 "LeadNamesModel" "titleName" "[J" ∈ tbG := tb_6 (List.mem_of_getElem? (i := 140) rfl) rfl
theorem lk_X11_79 : Cond.fieldLink RX11 79 "LeadNamesModel" "honour" "[I" ∈ tbG := tb_6 (List.mem_of_getElem? (i := 141) rfl) rfl
theorem lk_X11_82 : Cond.fieldLink RX11 82 "LeadNamesModel" "heapTold" "[I" ∈ tbG := tb_6 (List.mem_of_getElem? (i := 142) rfl) rfl
theorem lk_X11_85 : Cond.fieldLink RX11 85 "LeadNamesModel" "ages" "[I" ∈ tbG := tb_6 (List.mem_of_getElem? (i := 143) rfl) rfl
theorem lk_X11_88 : Cond.fieldLink RX11 88 "LeadNamesModel" "ageFrom" "[I" ∈ tbG := tb_6 (List.mem_of_getElem? (i := 144) rfl) rfl
theorem lk_X11_91 : Cond.fieldLink RX11 91 "LeadNamesModel" "agePart" "[I" ∈ tbG := tb_6 (List.mem_of_getElem? (i := 145) rfl) rfl
theorem lk_X11_94 : Cond.fieldLink RX11 94 "LeadNamesModel" "laws" "[I" ∈ tbG := tb_6 (List.mem_of_getElem? (i := 146) rfl) rfl
theorem lk_X11_97 : Cond.fieldLink RX11 97 "LeadNamesModel" "sumFrom" "[I" ∈ tbG := tb_6 (List.mem_of_getElem? (i := 147) rfl) rfl
theorem lk_X11_100 : Cond.fieldLink RX11 100 "LeadNamesModel" "testFrom" "[I" ∈ tbG := tb_6 (List.mem_of_getElem? (i := 148) rfl) rfl
theorem lk_X11_103 : Cond.fieldLink RX11 103 "LeadNamesModel" "testTo" "[I" ∈ tbG := tb_6 (List.mem_of_getElem? (i := 149) rfl) rfl
theorem lk_X11_106 : Cond.fieldLink RX11 106 "LeadNamesModel" "bridges" "[I" ∈ tbG := tb_6 (List.mem_of_getElem? (i := 150) rfl) rfl
theorem lk_X11_109 : Cond.fieldLink RX11 109 "LeadNamesModel" "bridgeName" "[J" ∈ tbG := tb_6 (List.mem_of_getElem? (i := 151) rfl) rfl
theorem lk_X11_112 : Cond.fieldLink RX11 112 "LeadNamesModel" "carries" "[I" ∈ tbG := tb_6 (List.mem_of_getElem? (i := 152) rfl) rfl
theorem lk_X11_115 : Cond.fieldLink RX11 115 "LeadNamesModel" "yearTold" "[I" ∈ tbG := tb_6 (List.mem_of_getElem? (i := 153) rfl) rfl
theorem lk_X11_118 : Cond.fieldLink RX11 118 "LeadNamesModel" "codeSort" "[I" ∈ tbG := tb_6 (List.mem_of_getElem? (i := 154) rfl) rfl
theorem lk_X11_121 : Cond.fieldLink RX11 121 "LeadNamesModel" "codeValue" "[I" ∈ tbG := tb_6 (List.mem_of_getElem? (i := 155) rfl) rfl
theorem lk_X11_124 : Cond.fieldLink RX11 124 "LeadNamesModel" "codes" "I" ∈ tbG := tb_6 (List.mem_of_getElem? (i := 156) rfl) rfl
theorem lk_X11_127 : Cond.fieldLink RX11 127 "LeadNamesModel" "in" "I" ∈ tbG := tb_6 (List.mem_of_getElem? (i := 157) rfl) rfl
theorem lk_X11_130 : Cond.fieldLink RX11 130 "LeadNamesModel" "frame" "[I" ∈ tbG := tb_6 (List.mem_of_getElem? (i := 158) rfl) rfl
theorem lk_X11_133 : Cond.fieldLink RX11 133 "LeadNamesModel" "phase" "[I" ∈ tbG := tb_6 (List.mem_of_getElem? (i := 159) rfl) rfl
theorem lk_X11_136 : Cond.fieldLink RX11 136 "LeadNamesModel" "begins" "[Z" ∈ tbG := tb_6 (List.mem_of_getElem? (i := 160) rfl) rfl
theorem lk_X11_140 : Cond.fieldLink RX11 140 "LeadNamesModel" "pair" "[I" ∈ tbG := tb_6 (List.mem_of_getElem? (i := 161) rfl) rfl
theorem lk_X11_143 : Cond.fieldLink RX11 143 "LeadNamesModel" "base" "[I" ∈ tbG := tb_6 (List.mem_of_getElem? (i := 162) rfl) rfl
theorem lk_X11_146 : Cond.fieldLink RX11 146 "LeadNamesModel" "deep" "I" ∈ tbG := tb_6 (List.mem_of_getElem? (i := 163) rfl) rfl
theorem lk_X11_149 : Cond.fieldLink RX11 149 "LeadNamesModel" "open" "I" ∈ tbG := tb_6 (List.mem_of_getElem? (i := 164) rfl) rfl
theorem lk_X11_152 : Cond.fieldLink RX11 152 "LeadNamesModel" "ops" "[I" ∈ tbG := tb_6 (List.mem_of_getElem? (i := 165) rfl) rfl
theorem lk_X11_155 : Cond.fieldLink RX11 155 "LeadNamesModel" "opMany" "I" ∈ tbG := tb_6 (List.mem_of_getElem? (i := 166) rfl) rfl
theorem lk_X11_158 : Cond.fieldLink RX11 158 "LeadNamesModel" "operand" "Z" ∈ tbG := tb_6 (List.mem_of_getElem? (i := 167) rfl) rfl
theorem lk_X11_162 : Cond.fieldLink RX11 162 "LeadNamesModel" "refused" "[I" ∈ tbG := tb_6 (List.mem_of_getElem? (i := 168) rfl) rfl
theorem lk_X11_165 : Cond.fieldLink RX11 165 "LeadNamesModel" "heap" "[J" ∈ tbG := tb_6 (List.mem_of_getElem? (i := 169) rfl) rfl
theorem lk_X11_168 : Cond.fieldLink RX11 168 "LeadNamesModel" "moment" "[I" ∈ tbG := tb_6 (List.mem_of_getElem? (i := 170) rfl) rfl
theorem lk_X11_171 : Cond.fieldLink RX11 171 "LeadNamesModel" "year" "I" ∈ tbG := tb_6 (List.mem_of_getElem? (i := 171) rfl) rfl
theorem lk_X11_174 : Cond.fieldLink RX11 174 "LeadNamesModel" "coat" "[I" ∈ tbG := tb_6 (List.mem_of_getElem? (i := 172) rfl) rfl
theorem lk_X11_177 : Cond.fieldLink RX11 177 "LeadNamesModel" "letters" "[I" ∈ tbG := tb_6 (List.mem_of_getElem? (i := 173) rfl) rfl
theorem lk_X11_180 : Cond.fieldLink RX11 180 "LeadNamesModel" "river" "I" ∈ tbG := tb_6 (List.mem_of_getElem? (i := 174) rfl) rfl
theorem lk_X11_183 : Cond.fieldLink RX11 183 "LeadNamesModel" "loans" "I" ∈ tbG := tb_6 (List.mem_of_getElem? (i := 175) rfl) rfl
theorem lk_X11_186 : Cond.fieldLink RX11 186 "LeadNamesModel" "loanFrom" "[I" ∈ tbG := tb_6 (List.mem_of_getElem? (i := 176) rfl) rfl
theorem lk_X11_189 : Cond.fieldLink RX11 189 "LeadNamesModel" "loanTo" "[I" ∈ tbG := tb_6 (List.mem_of_getElem? (i := 177) rfl) rfl
theorem lk_X11_192 : Cond.fieldLink RX11 192 "LeadNamesModel" "loanOf" "[I" ∈ tbG := tb_6 (List.mem_of_getElem? (i := 178) rfl) rfl
theorem lk_X11_195 : Cond.fieldLink RX11 195 "LeadNamesModel" "melted" "I" ∈ tbG := tb_6 (List.mem_of_getElem? (i := 179) rfl) rfl
theorem lk_X11_198 : Cond.fieldLink RX11 198 "LeadNamesModel" "bullet" "[I" ∈ tbG := tb_6 (List.mem_of_getElem? (i := 180) rfl) rfl
theorem lk_X11_201 : Cond.fieldLink RX11 201 "LeadNamesModel" "moves" "I" ∈ tbG := tb_6 (List.mem_of_getElem? (i := 181) rfl) rfl
theorem lk_X11_204 : Cond.fieldLink RX11 204 "LeadNamesModel" "moveRow" "[I" ∈ tbG := tb_6 (List.mem_of_getElem? (i := 182) rfl) rfl
theorem lk_X11_207 : Cond.fieldLink RX11 207 "LeadNamesModel" "spans" "I" ∈ tbG := tb_6 (List.mem_of_getElem? (i := 183) rfl) rfl
theorem lk_X11_210 : Cond.fieldLink RX11 210 "LeadNamesModel" "spanRow" "[I" ∈ tbG := tb_6 (List.mem_of_getElem? (i := 184) rfl) rfl
theorem lk_X11_213 : Cond.fieldLink RX11 213 "LeadNamesModel" "since" "[I" ∈ tbG := tb_6 (List.mem_of_getElem? (i := 185) rfl) rfl
theorem lk_X11_216 : Cond.fieldLink RX11 216 "LeadNamesModel" "seed" "J" ∈ tbG := tb_6 (List.mem_of_getElem? (i := 186) rfl) rfl
theorem lk_X11_219 : Cond.fieldLink RX11 219 "LeadNamesModel" "sharedMany" "I" ∈ tbG := tb_6 (List.mem_of_getElem? (i := 187) rfl) rfl
theorem lk_X11_222 : Cond.fieldLink RX11 222 "LeadNamesModel" "sharedOunces" "I" ∈ tbG := tb_6 (List.mem_of_getElem? (i := 188) rfl) rfl
theorem lk_X11_225 : Cond.fieldLink RX11 225 "LeadNamesModel" "going" "[I" ∈ tbG := tb_6 (List.mem_of_getElem? (i := 189) rfl) rfl
theorem lk_X11_228 : Cond.fieldLink RX11 228 "LeadNamesModel" "out" "[I" ∈ tbG := tb_6 (List.mem_of_getElem? (i := 190) rfl) rfl
theorem lk_X11_231 : Cond.fieldLink RX11 231 "LeadNamesModel" "outs" "I" ∈ tbG := tb_6 (List.mem_of_getElem? (i := 191) rfl) rfl
theorem ac_long : Cond.arrayClass .long ∈ tbG := tb_7 (List.mem_of_getElem? (i := 99) rfl) rfl
theorem ac_boolean : Cond.arrayClass .boolean ∈ tbG := tb_7 (List.mem_of_getElem? (i := 100) rfl) rfl
theorem lk_L_17 : Cond.methodLink RL 17 yX11_feed ∈ tbG := tb_7 (List.mem_of_getElem? (i := 101) rfl) rfl
theorem im_X11_feed : Cond.instanceMethod yX11_feed ∈ tbG := tb_7 (List.mem_of_getElem? (i := 102) rfl) rfl
theorem se_X11_feed : Cond.selects RX11 yX11_feed yX11_feed ∈ tbG := tb_7 (List.mem_of_getElem? (i := 103) rfl) rfl
theorem cd_X11_feed : Cond.code yX11_feed cX11_feed 6 (some .int) ∈ tbG := tb_7 (List.mem_of_getElem? (i := 104) rfl) rfl
theorem lk_X11_234 : Cond.methodLink RX11 234 yX11_refuses ∈ tbG := tb_7 (List.mem_of_getElem? (i := 105) rfl) rfl
theorem im_X11_refuses : Cond.instanceMethod yX11_refuses ∈ tbG := tb_7 (List.mem_of_getElem? (i := 107) rfl) rfl
theorem cd_X11_refuses : Cond.code yX11_refuses cX11_refuses 2 (some .int) ∈ tbG := tb_7 (List.mem_of_getElem? (i := 108) rfl) rfl
theorem lk_X11_238 : Cond.methodLink RX11 238 yX11_put ∈ tbG := tb_7 (List.mem_of_getElem? (i := 109) rfl) rfl
theorem im_X11_put : Cond.instanceMethod yX11_put ∈ tbG := tb_7 (List.mem_of_getElem? (i := 111) rfl) rfl
theorem cd_X11_put : Cond.code yX11_put cX11_put 3 none ∈ tbG := tb_7 (List.mem_of_getElem? (i := 112) rfl) rfl
theorem lk_L_22 : Cond.methodLink RL 22 yX11_end ∈ tbG := tb_7 (List.mem_of_getElem? (i := 113) rfl) rfl
theorem im_X11_end : Cond.instanceMethod yX11_end ∈ tbG := tb_7 (List.mem_of_getElem? (i := 114) rfl) rfl
theorem se_X11_end : Cond.selects RX11 yX11_end yX11_end ∈ tbG := tb_7 (List.mem_of_getElem? (i := 115) rfl) rfl
theorem cd_X11_end : Cond.code yX11_end cX11_end 2 (some .boolean) ∈ tbG := tb_7 (List.mem_of_getElem? (i := 116) rfl) rfl
theorem lk_L_27 : Cond.methodLink RL 27 yX11_land ∈ tbG := tb_7 (List.mem_of_getElem? (i := 117) rfl) rfl
theorem im_X11_land : Cond.instanceMethod yX11_land ∈ tbG := tb_7 (List.mem_of_getElem? (i := 118) rfl) rfl
theorem se_X11_land : Cond.selects RX11 yX11_land yX11_land ∈ tbG := tb_7 (List.mem_of_getElem? (i := 119) rfl) rfl
theorem cd_X11_land : Cond.code yX11_land cX11_land 2 (some .int) ∈ tbG := tb_7 (List.mem_of_getElem? (i := 120) rfl) rfl
theorem lk_X11_256 : Cond.methodLink RX11 256 yX11_ahead ∈ tbG := tb_7 (List.mem_of_getElem? (i := 121) rfl) rfl
theorem im_X11_ahead : Cond.instanceMethod yX11_ahead ∈ tbG := tb_7 (List.mem_of_getElem? (i := 123) rfl) rfl
theorem cd_X11_ahead : Cond.code yX11_ahead cX11_ahead 6 none ∈ tbG := tb_7 (List.mem_of_getElem? (i := 124) rfl) rfl
theorem lk_X11_242 : Cond.methodLink RX11 242 yX11_isLetter ∈ tbG := tb_7 (List.mem_of_getElem? (i := 125) rfl) rfl
theorem sm_X11_isLetter : Cond.static yX11_isLetter ∈ tbG := tb_7 (List.mem_of_getElem? (i := 126) rfl) rfl
theorem cd_X11_isLetter : Cond.code yX11_isLetter cX11_isLetter 1 (some .boolean) ∈ tbG := tb_7 (List.mem_of_getElem? (i := 127) rfl) rfl
theorem lk_X11_246 : Cond.methodLink RX11 246 yX11_isDigit ∈ tbG := tb_7 (List.mem_of_getElem? (i := 128) rfl) rfl
theorem sm_X11_isDigit : Cond.static yX11_isDigit ∈ tbG := tb_7 (List.mem_of_getElem? (i := 129) rfl) rfl
theorem cd_X11_isDigit : Cond.code yX11_isDigit cX11_isDigit 1 (some .boolean) ∈ tbG := tb_7 (List.mem_of_getElem? (i := 130) rfl) rfl
theorem lk_X11_249 : Cond.methodLink RX11 249 yX11_blame ∈ tbG := tb_7 (List.mem_of_getElem? (i := 131) rfl) rfl
theorem im_X11_blame : Cond.instanceMethod yX11_blame ∈ tbG := tb_7 (List.mem_of_getElem? (i := 133) rfl) rfl
theorem cd_X11_blame : Cond.code yX11_blame cX11_blame 3 none ∈ tbG := tb_7 (List.mem_of_getElem? (i := 134) rfl) rfl
theorem lk_X11_412 : Cond.methodLink RX11 412 yX11_statement ∈ tbG := tb_7 (List.mem_of_getElem? (i := 135) rfl) rfl
theorem im_X11_statement : Cond.instanceMethod yX11_statement ∈ tbG := tb_7 (List.mem_of_getElem? (i := 137) rfl) rfl
theorem cd_X11_statement : Cond.code yX11_statement cX11_statement 1 none ∈ tbG := tb_7 (List.mem_of_getElem? (i := 138) rfl) rfl
theorem lk_X11_259 : Cond.constantLong RX11 259 (119183001281906) ∈ tbG := tb_7 (List.mem_of_getElem? (i := 139) rfl) rfl
theorem lk_X11_325 : Cond.methodLink RX11 325 yX11_isWord ∈ tbG := tb_7 (List.mem_of_getElem? (i := 140) rfl) rfl
theorem im_X11_isWord : Cond.instanceMethod yX11_isWord ∈ tbG := tb_7 (List.mem_of_getElem? (i := 142) rfl) rfl
theorem cd_X11_isWord : Cond.code yX11_isWord cX11_isWord 3 (some .boolean) ∈ tbG := tb_7 (List.mem_of_getElem? (i := 143) rfl) rfl
theorem lk_X11_380 : Cond.methodLink RX11 380 yX11_weighs ∈ tbG := tb_7 (List.mem_of_getElem? (i := 144) rfl) rfl
theorem im_X11_weighs : Cond.instanceMethod yX11_weighs ∈ tbG := tb_7 (List.mem_of_getElem? (i := 146) rfl) rfl
theorem cd_X11_weighs : Cond.code yX11_weighs cX11_weighs 3 none ∈ tbG := tb_7 (List.mem_of_getElem? (i := 147) rfl) rfl
theorem lk_X11_353 : Cond.methodLink RX11 353 yX11_counts ∈ tbG := tb_7 (List.mem_of_getElem? (i := 148) rfl) rfl
theorem im_X11_counts : Cond.instanceMethod yX11_counts ∈ tbG := tb_7 (List.mem_of_getElem? (i := 150) rfl) rfl
theorem cd_X11_counts : Cond.code yX11_counts cX11_counts 2 (some .boolean) ∈ tbG := tb_7 (List.mem_of_getElem? (i := 151) rfl) rfl
theorem lk_X11_357 : Cond.methodLink RX11 357 yX11_oneLetter ∈ tbG := tb_7 (List.mem_of_getElem? (i := 152) rfl) rfl
theorem im_X11_oneLetter : Cond.instanceMethod yX11_oneLetter ∈ tbG := tb_7 (List.mem_of_getElem? (i := 154) rfl) rfl
theorem cd_X11_oneLetter : Cond.code yX11_oneLetter cX11_oneLetter 2 (some .int) ∈ tbG := tb_7 (List.mem_of_getElem? (i := 155) rfl) rfl
theorem lk_X11_351 : Cond.constantLong RX11 351 (255) ∈ tbG := tb_7 (List.mem_of_getElem? (i := 156) rfl) rfl
theorem lk_X11_361 : Cond.methodLink RX11 361 yX11_number ∈ tbG := tb_7 (List.mem_of_getElem? (i := 157) rfl) rfl
theorem im_X11_number : Cond.instanceMethod yX11_number ∈ tbG := tb_7 (List.mem_of_getElem? (i := 159) rfl) rfl
theorem cd_X11_number : Cond.code yX11_number cX11_number 4 (some .int) ∈ tbG := tb_7 (List.mem_of_getElem? (i := 160) rfl) rfl
theorem lk_X11_309 : Cond.methodLink RX11 309 yX11_is ∈ tbG := tb_7 (List.mem_of_getElem? (i := 161) rfl) rfl
theorem sm_X11_is : Cond.static yX11_is ∈ tbG := tb_7 (List.mem_of_getElem? (i := 162) rfl) rfl
theorem cd_X11_is : Cond.code yX11_is cX11_is 3 (some .boolean) ∈ tbG := tb_7 (List.mem_of_getElem? (i := 163) rfl) rfl
theorem lk_X11_261 : Cond.constantLong RX11 261 (123581014175598) ∈ tbG := tb_7 (List.mem_of_getElem? (i := 164) rfl) rfl
theorem lk_X11_383 : Cond.methodLink RX11 383 yX11_person ∈ tbG := tb_7 (List.mem_of_getElem? (i := 165) rfl) rfl
theorem im_X11_person : Cond.instanceMethod yX11_person ∈ tbG := tb_7 (List.mem_of_getElem? (i := 167) rfl) rfl
theorem cd_X11_person : Cond.code yX11_person cX11_person 2 none ∈ tbG := tb_7 (List.mem_of_getElem? (i := 168) rfl) rfl
theorem lk_X11_365 : Cond.methodLink RX11 365 yX11_fresh ∈ tbG := tb_7 (List.mem_of_getElem? (i := 169) rfl) rfl
theorem im_X11_fresh : Cond.instanceMethod yX11_fresh ∈ tbG := tb_7 (List.mem_of_getElem? (i := 171) rfl) rfl
theorem cd_X11_fresh : Cond.code yX11_fresh cX11_fresh 3 (some .long) ∈ tbG := tb_7 (List.mem_of_getElem? (i := 172) rfl) rfl
theorem lk_X11_344 : Cond.methodLink RX11 344 yX11_isOwn ∈ tbG := tb_7 (List.mem_of_getElem? (i := 173) rfl) rfl
theorem im_X11_isOwn : Cond.instanceMethod yX11_isOwn ∈ tbG := tb_7 (List.mem_of_getElem? (i := 175) rfl) rfl
theorem cd_X11_isOwn : Cond.code yX11_isOwn cX11_isOwn 3 (some .boolean) ∈ tbG := tb_7 (List.mem_of_getElem? (i := 176) rfl) rfl
theorem lk_X11_263 : Cond.constantLong RX11 263 (1651470958) ∈ tbG := tb_7 (List.mem_of_getElem? (i := 177) rfl) rfl
theorem lk_X11_265 : Cond.constantLong RX11 265 (465624790131) ∈ tbG := tb_7 (List.mem_of_getElem? (i := 178) rfl) rfl
theorem lk_X11_267 : Cond.constantLong RX11 267 (431198467187) ∈ tbG := tb_7 (List.mem_of_getElem? (i := 179) rfl) rfl
theorem lk_X11_269 : Cond.constantLong RX11 269 (499985443941) ∈ tbG := tb_7 (List.mem_of_getElem? (i := 180) rfl) rfl
theorem lk_X11_271 : Cond.constantLong RX11 271 (114827803456882) ∈ tbG := tb_7 (List.mem_of_getElem? (i := 181) rfl) rfl
theorem lk_X11_273 : Cond.constantLong RX11 273 (6840691) ∈ tbG := tb_7 (List.mem_of_getElem? (i := 182) rfl) rfl
theorem lk_X11_275 : Cond.constantLong RX11 275 (1751474544) ∈ tbG := tb_7 (List.mem_of_getElem? (i := 183) rfl) rfl
theorem lk_X11_277 : Cond.constantLong RX11 277 (6383461) ∈ tbG := tb_7 (List.mem_of_getElem? (i := 184) rfl) rfl
theorem lk_X11_279 : Cond.constantLong RX11 279 (422607680115) ∈ tbG := tb_7 (List.mem_of_getElem? (i := 185) rfl) rfl
theorem lk_X11_281 : Cond.constantLong RX11 281 (108243533981541) ∈ tbG := tb_7 (List.mem_of_getElem? (i := 186) rfl) rfl
theorem lk_X11_283 : Cond.constantLong RX11 283 (2036687218) ∈ tbG := tb_7 (List.mem_of_getElem? (i := 187) rfl) rfl
theorem lk_X11_285 : Cond.constantLong RX11 285 (2003330414) ∈ tbG := tb_7 (List.mem_of_getElem? (i := 188) rfl) rfl
theorem lk_X11_287 : Cond.constantLong RX11 287 (28530) ∈ tbG := tb_7 (List.mem_of_getElem? (i := 189) rfl) rfl
theorem lk_X11_289 : Cond.constantLong RX11 289 (6385252) ∈ tbG := tb_7 (List.mem_of_getElem? (i := 190) rfl) rfl
theorem lk_X11_291 : Cond.constantLong RX11 291 (7237492) ∈ tbG := tb_7 (List.mem_of_getElem? (i := 191) rfl) rfl
theorem lk_X11_293 : Cond.constantLong RX11 293 (6384748) ∈ tbG := tb_7 (List.mem_of_getElem? (i := 192) rfl) rfl
theorem lk_X11_295 : Cond.constantLong RX11 295 (7302244) ∈ tbG := tb_7 (List.mem_of_getElem? (i := 193) rfl) rfl
theorem lk_X11_297 : Cond.constantLong RX11 297 (439956431717) ∈ tbG := tb_7 (List.mem_of_getElem? (i := 194) rfl) rfl
theorem lk_X11_299 : Cond.constantLong RX11 299 (474080961907) ∈ tbG := tb_7 (List.mem_of_getElem? (i := 195) rfl) rfl
theorem lk_X11_301 : Cond.constantLong RX11 301 (7170414) ∈ tbG := tb_7 (List.mem_of_getElem? (i := 196) rfl) rfl
theorem lk_X11_303 : Cond.constantLong RX11 303 (7168376) ∈ tbG := tb_7 (List.mem_of_getElem? (i := 197) rfl) rfl
theorem lk_X11_347 : Cond.methodLink RX11 347 yX11_named ∈ tbG := tb_7 (List.mem_of_getElem? (i := 198) rfl) rfl
theorem im_X11_named : Cond.instanceMethod yX11_named ∈ tbG := tb_7 (List.mem_of_getElem? (i := 200) rfl) rfl
theorem cd_X11_named : Cond.code yX11_named cX11_named 6 (some .int) ∈ tbG := tb_7 (List.mem_of_getElem? (i := 201) rfl) rfl
theorem lk_X11_305 : Cond.methodLink RX11 305 yX11_nameOf ∈ tbG := tb_7 (List.mem_of_getElem? (i := 202) rfl) rfl
theorem im_X11_nameOf : Cond.instanceMethod yX11_nameOf ∈ tbG := tb_7 (List.mem_of_getElem? (i := 204) rfl) rfl
theorem cd_X11_nameOf : Cond.code yX11_nameOf cX11_nameOf 4 (some .long) ∈ tbG := tb_7 (List.mem_of_getElem? (i := 205) rfl) rfl
theorem lk_X11_369 : Cond.methodLink RX11 369 yX11_must_ ∈ tbG := tb_7 (List.mem_of_getElem? (i := 206) rfl) rfl
theorem im_X11_must_ : Cond.instanceMethod yX11_must_ ∈ tbG := tb_7 (List.mem_of_getElem? (i := 208) rfl) rfl
theorem cd_X11_must_ : Cond.code yX11_must_ cX11_must_ 3 none ∈ tbG := tb_7 (List.mem_of_getElem? (i := 209) rfl) rfl
theorem lk_X11_386 : Cond.methodLink RX11 386 yX11_title ∈ tbG := tb_7 (List.mem_of_getElem? (i := 210) rfl) rfl
theorem im_X11_title : Cond.instanceMethod yX11_title ∈ tbG := tb_7 (List.mem_of_getElem? (i := 212) rfl) rfl
theorem cd_X11_title : Cond.code yX11_title cX11_title 2 none ∈ tbG := tb_7 (List.mem_of_getElem? (i := 213) rfl) rfl
theorem lk_X11_389 : Cond.methodLink RX11 389 yX11_having ∈ tbG := tb_7 (List.mem_of_getElem? (i := 214) rfl) rfl
theorem im_X11_having : Cond.instanceMethod yX11_having ∈ tbG := tb_7 (List.mem_of_getElem? (i := 216) rfl) rfl
theorem cd_X11_having : Cond.code yX11_having cX11_having 3 none ∈ tbG := tb_7 (List.mem_of_getElem? (i := 217) rfl) rfl
theorem lk_X11_373 : Cond.methodLink RX11 373 yX11_asked ∈ tbG := tb_7 (List.mem_of_getElem? (i := 218) rfl) rfl
theorem im_X11_asked : Cond.instanceMethod yX11_asked ∈ tbG := tb_7 (List.mem_of_getElem? (i := 220) rfl) rfl
theorem cd_X11_asked : Cond.code yX11_asked cX11_asked 3 (some .int) ∈ tbG := tb_7 (List.mem_of_getElem? (i := 221) rfl) rfl
theorem lk_X11_392 : Cond.methodLink RX11 392 yX11_heaping ∈ tbG := tb_7 (List.mem_of_getElem? (i := 222) rfl) rfl
theorem im_X11_heaping : Cond.instanceMethod yX11_heaping ∈ tbG := tb_7 (List.mem_of_getElem? (i := 224) rfl) rfl
theorem cd_X11_heaping : Cond.code yX11_heaping cX11_heaping 3 none ∈ tbG := tb_7 (List.mem_of_getElem? (i := 225) rfl) rfl
theorem lk_X11_395 : Cond.methodLink RX11 395 yX11_others ∈ tbG := tb_7 (List.mem_of_getElem? (i := 226) rfl) rfl
theorem im_X11_others : Cond.instanceMethod yX11_others ∈ tbG := tb_7 (List.mem_of_getElem? (i := 228) rfl) rfl
theorem cd_X11_others : Cond.code yX11_others cX11_others 1 none ∈ tbG := tb_7 (List.mem_of_getElem? (i := 229) rfl) rfl
theorem lk_X11_400 : Cond.methodLink RX11 400 yX11_ageing ∈ tbG := tb_7 (List.mem_of_getElem? (i := 230) rfl) rfl
theorem im_X11_ageing : Cond.instanceMethod yX11_ageing ∈ tbG := tb_7 (List.mem_of_getElem? (i := 232) rfl) rfl
theorem cd_X11_ageing : Cond.code yX11_ageing cX11_ageing 2 none ∈ tbG := tb_7 (List.mem_of_getElem? (i := 233) rfl) rfl
theorem lk_X11_403 : Cond.methodLink RX11 403 yX11_law ∈ tbG := tb_7 (List.mem_of_getElem? (i := 234) rfl) rfl
theorem im_X11_law : Cond.instanceMethod yX11_law ∈ tbG := tb_7 (List.mem_of_getElem? (i := 236) rfl) rfl
theorem cd_X11_law : Cond.code yX11_law cX11_law 2 none ∈ tbG := tb_7 (List.mem_of_getElem? (i := 237) rfl) rfl
theorem lk_X11_376 : Cond.methodLink RX11 376 yX11_reads ∈ tbG := tb_7 (List.mem_of_getElem? (i := 238) rfl) rfl
theorem im_X11_reads : Cond.instanceMethod yX11_reads ∈ tbG := tb_8 (List.mem_of_getElem? (i := 0) rfl) rfl
theorem cd_X11_reads : Cond.code yX11_reads cX11_reads 3 none ∈ tbG := tb_8 (List.mem_of_getElem? (i := 1) rfl) rfl
theorem lk_X11_319 : Cond.methodLink RX11 319 yX11_pushes ∈ tbG := tb_8 (List.mem_of_getElem? (i := 2) rfl) rfl
theorem im_X11_pushes : Cond.instanceMethod yX11_pushes ∈ tbG := tb_8 (List.mem_of_getElem? (i := 4) rfl) rfl
theorem cd_X11_pushes : Cond.code yX11_pushes cX11_pushes 2 none ∈ tbG := tb_8 (List.mem_of_getElem? (i := 5) rfl) rfl
theorem lk_X11_338 : Cond.methodLink RX11 338 yX11_operand ∈ tbG := tb_8 (List.mem_of_getElem? (i := 6) rfl) rfl
theorem im_X11_operand : Cond.instanceMethod yX11_operand ∈ tbG := tb_8 (List.mem_of_getElem? (i := 8) rfl) rfl
theorem cd_X11_operand : Cond.code yX11_operand cX11_operand 4 (some .boolean) ∈ tbG := tb_8 (List.mem_of_getElem? (i := 9) rfl) rfl
theorem lk_X11_322 : Cond.methodLink RX11 322 yX11_isTest ∈ tbG := tb_8 (List.mem_of_getElem? (i := 10) rfl) rfl
theorem sm_X11_isTest : Cond.static yX11_isTest ∈ tbG := tb_8 (List.mem_of_getElem? (i := 11) rfl) rfl
theorem cd_X11_isTest : Cond.code yX11_isTest cX11_isTest 1 (some .boolean) ∈ tbG := tb_8 (List.mem_of_getElem? (i := 12) rfl) rfl
theorem lk_X11_329 : Cond.methodLink RX11 329 yX11_holdsBack ∈ tbG := tb_8 (List.mem_of_getElem? (i := 13) rfl) rfl
theorem im_X11_holdsBack : Cond.instanceMethod yX11_holdsBack ∈ tbG := tb_8 (List.mem_of_getElem? (i := 15) rfl) rfl
theorem cd_X11_holdsBack : Cond.code yX11_holdsBack cX11_holdsBack 2 none ∈ tbG := tb_8 (List.mem_of_getElem? (i := 16) rfl) rfl
theorem lk_X11_253 : Cond.methodLink RX11 253 yX11_isSign ∈ tbG := tb_8 (List.mem_of_getElem? (i := 17) rfl) rfl
theorem im_X11_isSign : Cond.instanceMethod yX11_isSign ∈ tbG := tb_8 (List.mem_of_getElem? (i := 19) rfl) rfl
theorem cd_X11_isSign : Cond.code yX11_isSign cX11_isSign 2 (some .boolean) ∈ tbG := tb_8 (List.mem_of_getElem? (i := 20) rfl) rfl
theorem lk_X11_332 : Cond.methodLink RX11 332 yX11_opens ∈ tbG := tb_8 (List.mem_of_getElem? (i := 21) rfl) rfl
theorem im_X11_opens : Cond.instanceMethod yX11_opens ∈ tbG := tb_8 (List.mem_of_getElem? (i := 23) rfl) rfl
theorem cd_X11_opens : Cond.code yX11_opens cX11_opens 2 none ∈ tbG := tb_8 (List.mem_of_getElem? (i := 24) rfl) rfl
theorem lk_X11_316 : Cond.methodLink RX11 316 yX11_add ∈ tbG := tb_8 (List.mem_of_getElem? (i := 25) rfl) rfl
theorem im_X11_add : Cond.instanceMethod yX11_add ∈ tbG := tb_8 (List.mem_of_getElem? (i := 27) rfl) rfl
theorem cd_X11_add : Cond.code yX11_add cX11_add 3 none ∈ tbG := tb_8 (List.mem_of_getElem? (i := 28) rfl) rfl
theorem lk_X11_341 : Cond.methodLink RX11 341 yX11_goesOn ∈ tbG := tb_8 (List.mem_of_getElem? (i := 29) rfl) rfl
theorem im_X11_goesOn : Cond.instanceMethod yX11_goesOn ∈ tbG := tb_8 (List.mem_of_getElem? (i := 31) rfl) rfl
theorem cd_X11_goesOn : Cond.code yX11_goesOn cX11_goesOn 5 (some .boolean) ∈ tbG := tb_8 (List.mem_of_getElem? (i := 32) rfl) rfl
theorem lk_X11_335 : Cond.methodLink RX11 335 yX11_joins ∈ tbG := tb_8 (List.mem_of_getElem? (i := 33) rfl) rfl
theorem im_X11_joins : Cond.instanceMethod yX11_joins ∈ tbG := tb_8 (List.mem_of_getElem? (i := 35) rfl) rfl
theorem cd_X11_joins : Cond.code yX11_joins cX11_joins 2 none ∈ tbG := tb_8 (List.mem_of_getElem? (i := 36) rfl) rfl
theorem lk_X11_313 : Cond.methodLink RX11 313 yX11_rank ∈ tbG := tb_8 (List.mem_of_getElem? (i := 37) rfl) rfl
theorem sm_X11_rank : Cond.static yX11_rank ∈ tbG := tb_8 (List.mem_of_getElem? (i := 38) rfl) rfl
theorem cd_X11_rank : Cond.code yX11_rank cX11_rank 1 (some .int) ∈ tbG := tb_8 (List.mem_of_getElem? (i := 39) rfl) rfl
theorem lk_X11_406 : Cond.methodLink RX11 406 yX11_bridge ∈ tbG := tb_8 (List.mem_of_getElem? (i := 40) rfl) rfl
theorem im_X11_bridge : Cond.instanceMethod yX11_bridge ∈ tbG := tb_8 (List.mem_of_getElem? (i := 42) rfl) rfl
theorem cd_X11_bridge : Cond.code yX11_bridge cX11_bridge 2 none ∈ tbG := tb_8 (List.mem_of_getElem? (i := 43) rfl) rfl
theorem lk_X11_409 : Cond.methodLink RX11 409 yX11_dating ∈ tbG := tb_8 (List.mem_of_getElem? (i := 44) rfl) rfl
theorem im_X11_dating : Cond.instanceMethod yX11_dating ∈ tbG := tb_8 (List.mem_of_getElem? (i := 46) rfl) rfl
theorem cd_X11_dating : Cond.code yX11_dating cX11_dating 1 none ∈ tbG := tb_8 (List.mem_of_getElem? (i := 47) rfl) rfl
theorem lk_X11_398 : Cond.methodLink RX11 398 yX11_must ∈ tbG := tb_8 (List.mem_of_getElem? (i := 48) rfl) rfl
theorem im_X11_must : Cond.instanceMethod yX11_must ∈ tbG := tb_8 (List.mem_of_getElem? (i := 50) rfl) rfl
theorem cd_X11_must : Cond.code yX11_must cX11_must 2 none ∈ tbG := tb_8 (List.mem_of_getElem? (i := 51) rfl) rfl
theorem lk_X11_415 : Cond.methodLink RX11 415 yX11_begins ∈ tbG := tb_8 (List.mem_of_getElem? (i := 52) rfl) rfl
theorem im_X11_begins : Cond.instanceMethod yX11_begins ∈ tbG := tb_8 (List.mem_of_getElem? (i := 54) rfl) rfl
theorem cd_X11_begins : Cond.code yX11_begins cX11_begins 3 none ∈ tbG := tb_8 (List.mem_of_getElem? (i := 55) rfl) rfl
theorem lk_L_32 : Cond.methodLink RL 32 yX11_fault ∈ tbG := tb_8 (List.mem_of_getElem? (i := 56) rfl) rfl
theorem im_X11_fault : Cond.instanceMethod yX11_fault ∈ tbG := tb_8 (List.mem_of_getElem? (i := 57) rfl) rfl
theorem se_X11_fault : Cond.selects RX11 yX11_fault yX11_fault ∈ tbG := tb_8 (List.mem_of_getElem? (i := 58) rfl) rfl
theorem cd_X11_fault : Cond.code yX11_fault cX11_fault 2 (some .int) ∈ tbG := tb_8 (List.mem_of_getElem? (i := 59) rfl) rfl
theorem lk_L_165 : Cond.methodLink RL 165 yX11_status ∈ tbG := tb_8 (List.mem_of_getElem? (i := 60) rfl) rfl
theorem im_X11_status : Cond.instanceMethod yX11_status ∈ tbG := tb_8 (List.mem_of_getElem? (i := 61) rfl) rfl
theorem se_X11_status : Cond.selects RX11 yX11_status yX11_status ∈ tbG := tb_8 (List.mem_of_getElem? (i := 62) rfl) rfl
theorem cd_X11_status : Cond.code yX11_status cX11_status 2 (some .int) ∈ tbG := tb_8 (List.mem_of_getElem? (i := 63) rfl) rfl
theorem lk_L_36 : Cond.methodLink RL 36 yX11_has ∈ tbG := tb_8 (List.mem_of_getElem? (i := 64) rfl) rfl
theorem im_X11_has : Cond.instanceMethod yX11_has ∈ tbG := tb_8 (List.mem_of_getElem? (i := 65) rfl) rfl
theorem se_X11_has : Cond.selects RX11 yX11_has yX11_has ∈ tbG := tb_8 (List.mem_of_getElem? (i := 66) rfl) rfl
theorem cd_X11_has : Cond.code yX11_has cX11_has 2 (some .int) ∈ tbG := tb_8 (List.mem_of_getElem? (i := 67) rfl) rfl
theorem lk_L_41 : Cond.methodLink RL 41 yX11_letter ∈ tbG := tb_8 (List.mem_of_getElem? (i := 68) rfl) rfl
theorem im_X11_letter : Cond.instanceMethod yX11_letter ∈ tbG := tb_8 (List.mem_of_getElem? (i := 69) rfl) rfl
theorem se_X11_letter : Cond.selects RX11 yX11_letter yX11_letter ∈ tbG := tb_8 (List.mem_of_getElem? (i := 70) rfl) rfl
theorem cd_X11_letter : Cond.code yX11_letter cX11_letter 9 (some .int) ∈ tbG := tb_8 (List.mem_of_getElem? (i := 71) rfl) rfl
theorem lk_X11_461 : Cond.methodLink RX11 461 yX11_manyOf ∈ tbG := tb_8 (List.mem_of_getElem? (i := 72) rfl) rfl
theorem im_X11_manyOf : Cond.instanceMethod yX11_manyOf ∈ tbG := tb_8 (List.mem_of_getElem? (i := 74) rfl) rfl
theorem cd_X11_manyOf : Cond.code yX11_manyOf cX11_manyOf 2 (some .int) ∈ tbG := tb_8 (List.mem_of_getElem? (i := 75) rfl) rfl
theorem lk_L_45 : Cond.methodLink RL 45 yX11_ounces ∈ tbG := tb_8 (List.mem_of_getElem? (i := 76) rfl) rfl
theorem im_X11_ounces : Cond.instanceMethod yX11_ounces ∈ tbG := tb_8 (List.mem_of_getElem? (i := 77) rfl) rfl
theorem se_X11_ounces : Cond.selects RX11 yX11_ounces yX11_ounces ∈ tbG := tb_8 (List.mem_of_getElem? (i := 78) rfl) rfl
theorem cd_X11_ounces : Cond.code yX11_ounces cX11_ounces 2 (some .int) ∈ tbG := tb_8 (List.mem_of_getElem? (i := 79) rfl) rfl
theorem lk_X11_464 : Cond.methodLink RX11 464 yX11_isLetterCode ∈ tbG := tb_8 (List.mem_of_getElem? (i := 80) rfl) rfl
theorem sm_X11_isLetterCode : Cond.static yX11_isLetterCode ∈ tbG := tb_8 (List.mem_of_getElem? (i := 81) rfl) rfl
theorem cd_X11_isLetterCode : Cond.code yX11_isLetterCode cX11_isLetterCode 1 (some .boolean) ∈ tbG := tb_8 (List.mem_of_getElem? (i := 82) rfl) rfl
theorem lk_X11_433 : Cond.methodLink RX11 433 yX11_weight ∈ tbG := tb_8 (List.mem_of_getElem? (i := 83) rfl) rfl
theorem im_X11_weight : Cond.instanceMethod yX11_weight ∈ tbG := tb_8 (List.mem_of_getElem? (i := 85) rfl) rfl
theorem cd_X11_weight : Cond.code yX11_weight cX11_weight 2 (some .int) ∈ tbG := tb_8 (List.mem_of_getElem? (i := 86) rfl) rfl
theorem lk_L_50 : Cond.methodLink RL 50 yX11_title_ ∈ tbG := tb_8 (List.mem_of_getElem? (i := 87) rfl) rfl
theorem im_X11_title_ : Cond.instanceMethod yX11_title_ ∈ tbG := tb_8 (List.mem_of_getElem? (i := 88) rfl) rfl
theorem se_X11_title_ : Cond.selects RX11 yX11_title_ yX11_title_ ∈ tbG := tb_8 (List.mem_of_getElem? (i := 89) rfl) rfl
theorem cd_X11_title_ : Cond.code yX11_title_ cX11_title_ 5 (some .int) ∈ tbG := tb_8 (List.mem_of_getElem? (i := 90) rfl) rfl
theorem lk_X11_467 : Cond.methodLink RX11 467 yX11_isTitle ∈ tbG := tb_8 (List.mem_of_getElem? (i := 91) rfl) rfl
theorem im_X11_isTitle : Cond.instanceMethod yX11_isTitle ∈ tbG := tb_8 (List.mem_of_getElem? (i := 93) rfl) rfl
theorem cd_X11_isTitle : Cond.code yX11_isTitle cX11_isTitle 2 (some .boolean) ∈ tbG := tb_8 (List.mem_of_getElem? (i := 94) rfl) rfl
theorem lk_X11_470 : Cond.methodLink RX11 470 yX11_hasTitle ∈ tbG := tb_8 (List.mem_of_getElem? (i := 95) rfl) rfl
theorem im_X11_hasTitle : Cond.instanceMethod yX11_hasTitle ∈ tbG := tb_8 (List.mem_of_getElem? (i := 97) rfl) rfl
theorem cd_X11_hasTitle : Cond.code yX11_hasTitle cX11_hasTitle 3 (some .boolean) ∈ tbG := tb_8 (List.mem_of_getElem? (i := 98) rfl) rfl
theorem lk_X11_439 : Cond.methodLink RX11 439 yX11_ouncesOf ∈ tbG := tb_8 (List.mem_of_getElem? (i := 99) rfl) rfl
theorem im_X11_ouncesOf : Cond.instanceMethod yX11_ouncesOf ∈ tbG := tb_8 (List.mem_of_getElem? (i := 101) rfl) rfl
theorem cd_X11_ouncesOf : Cond.code yX11_ouncesOf cX11_ouncesOf 5 (some .int) ∈ tbG := tb_8 (List.mem_of_getElem? (i := 102) rfl) rfl
theorem lk_X11_436 : Cond.methodLink RX11 436 yX11_honourOf ∈ tbG := tb_8 (List.mem_of_getElem? (i := 103) rfl) rfl
theorem im_X11_honourOf : Cond.instanceMethod yX11_honourOf ∈ tbG := tb_8 (List.mem_of_getElem? (i := 105) rfl) rfl
theorem cd_X11_honourOf : Cond.code yX11_honourOf cX11_honourOf 2 (some .int) ∈ tbG := tb_8 (List.mem_of_getElem? (i := 106) rfl) rfl
theorem lk_X11_474 : Cond.methodLink RX11 474 yX11_lengthOf ∈ tbG := tb_8 (List.mem_of_getElem? (i := 107) rfl) rfl
theorem im_X11_lengthOf : Cond.instanceMethod yX11_lengthOf ∈ tbG := tb_8 (List.mem_of_getElem? (i := 109) rfl) rfl
theorem cd_X11_lengthOf : Cond.code yX11_lengthOf cX11_lengthOf 5 (some .int) ∈ tbG := tb_8 (List.mem_of_getElem? (i := 110) rfl) rfl
theorem lk_L_54 : Cond.methodLink RL 54 yX11_person_ ∈ tbG := tb_8 (List.mem_of_getElem? (i := 111) rfl) rfl
theorem im_X11_person_ : Cond.instanceMethod yX11_person_ ∈ tbG := tb_8 (List.mem_of_getElem? (i := 112) rfl) rfl
theorem se_X11_person_ : Cond.selects RX11 yX11_person_ yX11_person_ ∈ tbG := tb_8 (List.mem_of_getElem? (i := 113) rfl) rfl
theorem cd_X11_person_ : Cond.code yX11_person_ cX11_person_ 3 (some .int) ∈ tbG := tb_8 (List.mem_of_getElem? (i := 114) rfl) rfl
theorem lk_X11_483 : Cond.methodLink RX11 483 yX11_isPerson ∈ tbG := tb_8 (List.mem_of_getElem? (i := 115) rfl) rfl
theorem im_X11_isPerson : Cond.instanceMethod yX11_isPerson ∈ tbG := tb_8 (List.mem_of_getElem? (i := 117) rfl) rfl
theorem cd_X11_isPerson : Cond.code yX11_isPerson cX11_isPerson 2 (some .boolean) ∈ tbG := tb_8 (List.mem_of_getElem? (i := 118) rfl) rfl
theorem lk_X11_449 : Cond.methodLink RX11 449 yX11_ageOf ∈ tbG := tb_8 (List.mem_of_getElem? (i := 119) rfl) rfl
theorem im_X11_ageOf : Cond.instanceMethod yX11_ageOf ∈ tbG := tb_8 (List.mem_of_getElem? (i := 121) rfl) rfl
theorem cd_X11_ageOf : Cond.code yX11_ageOf cX11_ageOf 3 (some .int) ∈ tbG := tb_8 (List.mem_of_getElem? (i := 122) rfl) rfl
theorem lk_X11_486 : Cond.methodLink RX11 486 yX11_limitOf ∈ tbG := tb_8 (List.mem_of_getElem? (i := 123) rfl) rfl
theorem im_X11_limitOf : Cond.instanceMethod yX11_limitOf ∈ tbG := tb_8 (List.mem_of_getElem? (i := 125) rfl) rfl
theorem cd_X11_limitOf : Cond.code yX11_limitOf cX11_limitOf 7 (some .int) ∈ tbG := tb_8 (List.mem_of_getElem? (i := 126) rfl) rfl
theorem lk_X11_442 : Cond.methodLink RX11 442 yX11_sumOf ∈ tbG := tb_8 (List.mem_of_getElem? (i := 127) rfl) rfl
theorem im_X11_sumOf : Cond.instanceMethod yX11_sumOf ∈ tbG := tb_8 (List.mem_of_getElem? (i := 129) rfl) rfl
theorem cd_X11_sumOf : Cond.code yX11_sumOf cX11_sumOf 5 (some .int) ∈ tbG := tb_8 (List.mem_of_getElem? (i := 130) rfl) rfl
theorem lk_X11_452 : Cond.methodLink RX11 452 yX11_bitsOf ∈ tbG := tb_8 (List.mem_of_getElem? (i := 131) rfl) rfl
theorem sm_X11_bitsOf : Cond.static yX11_bitsOf ∈ tbG := tb_8 (List.mem_of_getElem? (i := 132) rfl) rfl
theorem cd_X11_bitsOf : Cond.code yX11_bitsOf cX11_bitsOf 3 (some .int) ∈ tbG := tb_8 (List.mem_of_getElem? (i := 133) rfl) rfl
theorem lk_X11_455 : Cond.methodLink RX11 455 yX11_works ∈ tbG := tb_8 (List.mem_of_getElem? (i := 134) rfl) rfl
theorem im_X11_works : Cond.instanceMethod yX11_works ∈ tbG := tb_8 (List.mem_of_getElem? (i := 136) rfl) rfl
theorem cd_X11_works : Cond.code yX11_works cX11_works 6 (some .long) ∈ tbG := tb_8 (List.mem_of_getElem? (i := 137) rfl) rfl
theorem lk_X11_429 : Cond.methodLink RX11 429 yX11_made ∈ tbG := tb_8 (List.mem_of_getElem? (i := 138) rfl) rfl
theorem sm_X11_made : Cond.static yX11_made ∈ tbG := tb_8 (List.mem_of_getElem? (i := 139) rfl) rfl
theorem cd_X11_made : Cond.code yX11_made cX11_made 5 (some .long) ∈ tbG := tb_8 (List.mem_of_getElem? (i := 140) rfl) rfl
theorem lk_X11_421 : Cond.methodLink RX11 421 yX11_bounded ∈ tbG := tb_8 (List.mem_of_getElem? (i := 141) rfl) rfl
theorem sm_X11_bounded : Cond.static yX11_bounded ∈ tbG := tb_8 (List.mem_of_getElem? (i := 142) rfl) rfl
theorem cd_X11_bounded : Cond.code yX11_bounded cX11_bounded 2 (some .long) ∈ tbG := tb_8 (List.mem_of_getElem? (i := 143) rfl) rfl
theorem lk_X11_417 : Cond.constantLong RX11 417 (1000000) ∈ tbG := tb_8 (List.mem_of_getElem? (i := 144) rfl) rfl
theorem lk_X11_419 : Cond.constantLong RX11 419 (-1000000) ∈ tbG := tb_8 (List.mem_of_getElem? (i := 145) rfl) rfl
theorem lk_X11_425 : Cond.methodLink RX11 425 yX11_over ∈ tbG := tb_8 (List.mem_of_getElem? (i := 146) rfl) rfl
theorem sm_X11_over : Cond.static yX11_over ∈ tbG := tb_8 (List.mem_of_getElem? (i := 147) rfl) rfl
theorem cd_X11_over : Cond.code yX11_over cX11_over 6 (some .long) ∈ tbG := tb_8 (List.mem_of_getElem? (i := 148) rfl) rfl
theorem lk_X11_459 : Cond.constantLong RX11 459 (9999) ∈ tbG := tb_8 (List.mem_of_getElem? (i := 149) rfl) rfl
theorem lk_X11_489 : Cond.methodLink RX11 489 yX11_loadOf ∈ tbG := tb_8 (List.mem_of_getElem? (i := 150) rfl) rfl
theorem im_X11_loadOf : Cond.instanceMethod yX11_loadOf ∈ tbG := tb_8 (List.mem_of_getElem? (i := 152) rfl) rfl
theorem cd_X11_loadOf : Cond.code yX11_loadOf cX11_loadOf 2 (some .int) ∈ tbG := tb_8 (List.mem_of_getElem? (i := 153) rfl) rfl
theorem lk_X11_446 : Cond.methodLink RX11 446 yX11_looseOunces ∈ tbG := tb_8 (List.mem_of_getElem? (i := 154) rfl) rfl
theorem im_X11_looseOunces : Cond.instanceMethod yX11_looseOunces ∈ tbG := tb_8 (List.mem_of_getElem? (i := 156) rfl) rfl
theorem cd_X11_looseOunces : Cond.code yX11_looseOunces cX11_looseOunces 4 (some .int) ∈ tbG := tb_8 (List.mem_of_getElem? (i := 157) rfl) rfl
theorem lk_X11_492 : Cond.methodLink RX11 492 yX11_looseMany ∈ tbG := tb_8 (List.mem_of_getElem? (i := 158) rfl) rfl
theorem im_X11_looseMany : Cond.instanceMethod yX11_looseMany ∈ tbG := tb_8 (List.mem_of_getElem? (i := 160) rfl) rfl
theorem cd_X11_looseMany : Cond.code yX11_looseMany cX11_looseMany 4 (some .int) ∈ tbG := tb_8 (List.mem_of_getElem? (i := 161) rfl) rfl
theorem lk_X11_495 : Cond.methodLink RX11 495 yX11_bestSet ∈ tbG := tb_8 (List.mem_of_getElem? (i := 162) rfl) rfl
theorem im_X11_bestSet : Cond.instanceMethod yX11_bestSet ∈ tbG := tb_8 (List.mem_of_getElem? (i := 164) rfl) rfl
theorem cd_X11_bestSet : Cond.code yX11_bestSet cX11_bestSet 7 (some .int) ∈ tbG := tb_8 (List.mem_of_getElem? (i := 165) rfl) rfl
theorem lk_X11_498 : Cond.methodLink RX11 498 yX11_calledBy ∈ tbG := tb_8 (List.mem_of_getElem? (i := 166) rfl) rfl
theorem im_X11_calledBy : Cond.instanceMethod yX11_calledBy ∈ tbG := tb_8 (List.mem_of_getElem? (i := 168) rfl) rfl
theorem cd_X11_calledBy : Cond.code yX11_calledBy cX11_calledBy 6 (some .int) ∈ tbG := tb_8 (List.mem_of_getElem? (i := 169) rfl) rfl
theorem lk_X11_477 : Cond.methodLink RX11 477 yX11_often ∈ tbG := tb_8 (List.mem_of_getElem? (i := 170) rfl) rfl
theorem im_X11_often : Cond.instanceMethod yX11_often ∈ tbG := tb_8 (List.mem_of_getElem? (i := 172) rfl) rfl
theorem cd_X11_often : Cond.code yX11_often cX11_often 6 (some .int) ∈ tbG := tb_8 (List.mem_of_getElem? (i := 173) rfl) rfl
theorem lk_X11_480 : Cond.methodLink RX11 480 yX11_allOf ∈ tbG := tb_8 (List.mem_of_getElem? (i := 174) rfl) rfl
theorem im_X11_allOf : Cond.instanceMethod yX11_allOf ∈ tbG := tb_8 (List.mem_of_getElem? (i := 176) rfl) rfl
theorem cd_X11_allOf : Cond.code yX11_allOf cX11_allOf 5 (some .int) ∈ tbG := tb_8 (List.mem_of_getElem? (i := 177) rfl) rfl
theorem lk_L_58 : Cond.methodLink RL 58 yX11_loose ∈ tbG := tb_8 (List.mem_of_getElem? (i := 178) rfl) rfl
theorem im_X11_loose : Cond.instanceMethod yX11_loose ∈ tbG := tb_8 (List.mem_of_getElem? (i := 179) rfl) rfl
theorem se_X11_loose : Cond.selects RX11 yX11_loose yX11_loose ∈ tbG := tb_8 (List.mem_of_getElem? (i := 180) rfl) rfl
theorem cd_X11_loose : Cond.code yX11_loose cX11_loose 3 (some .int) ∈ tbG := tb_8 (List.mem_of_getElem? (i := 181) rfl) rfl
theorem lk_L_62 : Cond.methodLink RL 62 yX11_lead ∈ tbG := tb_8 (List.mem_of_getElem? (i := 182) rfl) rfl
theorem im_X11_lead : Cond.instanceMethod yX11_lead ∈ tbG := tb_8 (List.mem_of_getElem? (i := 183) rfl) rfl
theorem se_X11_lead : Cond.selects RX11 yX11_lead yX11_lead ∈ tbG := tb_8 (List.mem_of_getElem? (i := 184) rfl) rfl
theorem cd_X11_lead : Cond.code yX11_lead cX11_lead 2 (some .int) ∈ tbG := tb_8 (List.mem_of_getElem? (i := 185) rfl) rfl
theorem lk_X11_501 : Cond.methodLink RX11 501 yX11_coatsAll ∈ tbG := tb_8 (List.mem_of_getElem? (i := 186) rfl) rfl
theorem im_X11_coatsAll : Cond.instanceMethod yX11_coatsAll ∈ tbG := tb_8 (List.mem_of_getElem? (i := 188) rfl) rfl
theorem cd_X11_coatsAll : Cond.code yX11_coatsAll cX11_coatsAll 3 (some .int) ∈ tbG := tb_8 (List.mem_of_getElem? (i := 189) rfl) rfl
theorem lk_X11_504 : Cond.methodLink RX11 504 yX11_bulletsAll ∈ tbG := tb_8 (List.mem_of_getElem? (i := 190) rfl) rfl
theorem im_X11_bulletsAll : Cond.instanceMethod yX11_bulletsAll ∈ tbG := tb_8 (List.mem_of_getElem? (i := 192) rfl) rfl
theorem cd_X11_bulletsAll : Cond.code yX11_bulletsAll cX11_bulletsAll 3 (some .int) ∈ tbG := tb_8 (List.mem_of_getElem? (i := 193) rfl) rfl
theorem lk_L_66 : Cond.methodLink RL 66 yX11_gain ∈ tbG := tb_8 (List.mem_of_getElem? (i := 194) rfl) rfl
theorem im_X11_gain : Cond.instanceMethod yX11_gain ∈ tbG := tb_8 (List.mem_of_getElem? (i := 195) rfl) rfl
theorem se_X11_gain : Cond.selects RX11 yX11_gain yX11_gain ∈ tbG := tb_8 (List.mem_of_getElem? (i := 196) rfl) rfl
theorem cd_X11_gain : Cond.code yX11_gain cX11_gain 3 (some .int) ∈ tbG := tb_8 (List.mem_of_getElem? (i := 197) rfl) rfl
theorem lk_X11_521 : Cond.methodLink RX11 521 yX11_canGain ∈ tbG := tb_8 (List.mem_of_getElem? (i := 198) rfl) rfl
theorem im_X11_canGain : Cond.instanceMethod yX11_canGain ∈ tbG := tb_8 (List.mem_of_getElem? (i := 200) rfl) rfl
theorem cd_X11_canGain : Cond.code yX11_canGain cX11_canGain 4 (some .boolean) ∈ tbG := tb_8 (List.mem_of_getElem? (i := 201) rfl) rfl
theorem lk_X11_507 : Cond.methodLink RX11 507 yX11_lacks ∈ tbG := tb_8 (List.mem_of_getElem? (i := 202) rfl) rfl
theorem im_X11_lacks : Cond.instanceMethod yX11_lacks ∈ tbG := tb_8 (List.mem_of_getElem? (i := 204) rfl) rfl
theorem cd_X11_lacks : Cond.code yX11_lacks cX11_lacks 5 (some .int) ∈ tbG := tb_8 (List.mem_of_getElem? (i := 205) rfl) rfl
theorem lk_X11_511 : Cond.methodLink RX11 511 yX11_lackOunces ∈ tbG := tb_8 (List.mem_of_getElem? (i := 206) rfl) rfl
theorem im_X11_lackOunces : Cond.instanceMethod yX11_lackOunces ∈ tbG := tb_8 (List.mem_of_getElem? (i := 208) rfl) rfl
theorem cd_X11_lackOunces : Cond.code yX11_lackOunces cX11_lackOunces 5 (some .int) ∈ tbG := tb_8 (List.mem_of_getElem? (i := 209) rfl) rfl
theorem lk_X11_524 : Cond.methodLink RX11 524 yX11_gains ∈ tbG := tb_8 (List.mem_of_getElem? (i := 210) rfl) rfl
theorem im_X11_gains : Cond.instanceMethod yX11_gains ∈ tbG := tb_8 (List.mem_of_getElem? (i := 212) rfl) rfl
theorem cd_X11_gains : Cond.code yX11_gains cX11_gains 6 none ∈ tbG := tb_8 (List.mem_of_getElem? (i := 213) rfl) rfl
theorem lk_X11_514 : Cond.methodLink RX11 514 yX11_comes ∈ tbG := tb_8 (List.mem_of_getElem? (i := 214) rfl) rfl
theorem im_X11_comes : Cond.instanceMethod yX11_comes ∈ tbG := tb_8 (List.mem_of_getElem? (i := 216) rfl) rfl
theorem cd_X11_comes : Cond.code yX11_comes cX11_comes 3 none ∈ tbG := tb_8 (List.mem_of_getElem? (i := 217) rfl) rfl
theorem lk_X11_517 : Cond.methodLink RX11 517 yX11_notes ∈ tbG := tb_8 (List.mem_of_getElem? (i := 218) rfl) rfl
theorem im_X11_notes : Cond.instanceMethod yX11_notes ∈ tbG := tb_8 (List.mem_of_getElem? (i := 220) rfl) rfl
theorem cd_X11_notes : Cond.code yX11_notes cX11_notes 6 none ∈ tbG := tb_8 (List.mem_of_getElem? (i := 221) rfl) rfl
theorem lk_L_70 : Cond.methodLink RL 70 yX11_shed ∈ tbG := tb_8 (List.mem_of_getElem? (i := 222) rfl) rfl
theorem im_X11_shed : Cond.instanceMethod yX11_shed ∈ tbG := tb_8 (List.mem_of_getElem? (i := 223) rfl) rfl
theorem se_X11_shed : Cond.selects RX11 yX11_shed yX11_shed ∈ tbG := tb_8 (List.mem_of_getElem? (i := 224) rfl) rfl
theorem cd_X11_shed : Cond.code yX11_shed cX11_shed 3 (some .int) ∈ tbG := tb_8 (List.mem_of_getElem? (i := 225) rfl) rfl
theorem lk_X11_533 : Cond.methodLink RX11 533 yX11_sheds ∈ tbG := tb_8 (List.mem_of_getElem? (i := 226) rfl) rfl
theorem im_X11_sheds : Cond.instanceMethod yX11_sheds ∈ tbG := tb_8 (List.mem_of_getElem? (i := 228) rfl) rfl
theorem cd_X11_sheds : Cond.code yX11_sheds cX11_sheds 3 none ∈ tbG := tb_8 (List.mem_of_getElem? (i := 229) rfl) rfl
theorem lk_X11_527 : Cond.methodLink RX11 527 yX11_goes ∈ tbG := tb_8 (List.mem_of_getElem? (i := 230) rfl) rfl
theorem im_X11_goes : Cond.instanceMethod yX11_goes ∈ tbG := tb_8 (List.mem_of_getElem? (i := 232) rfl) rfl
theorem cd_X11_goes : Cond.code yX11_goes cX11_goes 4 none ∈ tbG := tb_8 (List.mem_of_getElem? (i := 233) rfl) rfl
theorem lk_X11_530 : Cond.methodLink RX11 530 yX11_lays ∈ tbG := tb_8 (List.mem_of_getElem? (i := 234) rfl) rfl
theorem im_X11_lays : Cond.instanceMethod yX11_lays ∈ tbG := tb_8 (List.mem_of_getElem? (i := 236) rfl) rfl
theorem cd_X11_lays : Cond.code yX11_lays cX11_lays 4 none ∈ tbG := tb_8 (List.mem_of_getElem? (i := 237) rfl) rfl
theorem lk_L_75 : Cond.methodLink RL 75 yX11_steal ∈ tbG := tb_8 (List.mem_of_getElem? (i := 238) rfl) rfl
theorem im_X11_steal : Cond.instanceMethod yX11_steal ∈ tbG := tb_8 (List.mem_of_getElem? (i := 239) rfl) rfl
theorem se_X11_steal : Cond.selects RX11 yX11_steal yX11_steal ∈ tbG := tb_9 (List.mem_of_getElem? (i := 0) rfl) rfl
theorem cd_X11_steal : Cond.code yX11_steal cX11_steal 6 (some .boolean) ∈ tbG := tb_9 (List.mem_of_getElem? (i := 1) rfl) rfl
theorem lk_X11_536 : Cond.methodLink RX11 536 yX11_unpicked ∈ tbG := tb_9 (List.mem_of_getElem? (i := 2) rfl) rfl
theorem im_X11_unpicked : Cond.instanceMethod yX11_unpicked ∈ tbG := tb_9 (List.mem_of_getElem? (i := 4) rfl) rfl
theorem cd_X11_unpicked : Cond.code yX11_unpicked cX11_unpicked 4 (some .int) ∈ tbG := tb_9 (List.mem_of_getElem? (i := 5) rfl) rfl
theorem lk_L_80 : Cond.methodLink RL 80 yX11_trade ∈ tbG := tb_9 (List.mem_of_getElem? (i := 6) rfl) rfl
theorem im_X11_trade : Cond.instanceMethod yX11_trade ∈ tbG := tb_9 (List.mem_of_getElem? (i := 7) rfl) rfl
theorem se_X11_trade : Cond.selects RX11 yX11_trade yX11_trade ∈ tbG := tb_9 (List.mem_of_getElem? (i := 8) rfl) rfl
theorem cd_X11_trade : Cond.code yX11_trade cX11_trade 7 (some .boolean) ∈ tbG := tb_9 (List.mem_of_getElem? (i := 9) rfl) rfl
theorem lk_L_84 : Cond.methodLink RL 84 yX11_lend ∈ tbG := tb_9 (List.mem_of_getElem? (i := 10) rfl) rfl
theorem im_X11_lend : Cond.instanceMethod yX11_lend ∈ tbG := tb_9 (List.mem_of_getElem? (i := 11) rfl) rfl
theorem se_X11_lend : Cond.selects RX11 yX11_lend yX11_lend ∈ tbG := tb_9 (List.mem_of_getElem? (i := 12) rfl) rfl
theorem cd_X11_lend : Cond.code yX11_lend cX11_lend 4 (some .int) ∈ tbG := tb_9 (List.mem_of_getElem? (i := 13) rfl) rfl
theorem lk_L_88 : Cond.methodLink RL 88 yX11_giveBack ∈ tbG := tb_9 (List.mem_of_getElem? (i := 14) rfl) rfl
theorem im_X11_giveBack : Cond.instanceMethod yX11_giveBack ∈ tbG := tb_9 (List.mem_of_getElem? (i := 15) rfl) rfl
theorem se_X11_giveBack : Cond.selects RX11 yX11_giveBack yX11_giveBack ∈ tbG := tb_9 (List.mem_of_getElem? (i := 16) rfl) rfl
theorem cd_X11_giveBack : Cond.code yX11_giveBack cX11_giveBack 6 (some .boolean) ∈ tbG := tb_9 (List.mem_of_getElem? (i := 17) rfl) rfl
theorem lk_X11_539 : Cond.methodLink RX11 539 yX11_canBack ∈ tbG := tb_9 (List.mem_of_getElem? (i := 18) rfl) rfl
theorem im_X11_canBack : Cond.instanceMethod yX11_canBack ∈ tbG := tb_9 (List.mem_of_getElem? (i := 20) rfl) rfl
theorem cd_X11_canBack : Cond.code yX11_canBack cX11_canBack 2 (some .boolean) ∈ tbG := tb_9 (List.mem_of_getElem? (i := 21) rfl) rfl
theorem lk_L_92 : Cond.methodLink RL 92 yX11_loan ∈ tbG := tb_9 (List.mem_of_getElem? (i := 22) rfl) rfl
theorem im_X11_loan : Cond.instanceMethod yX11_loan ∈ tbG := tb_9 (List.mem_of_getElem? (i := 23) rfl) rfl
theorem se_X11_loan : Cond.selects RX11 yX11_loan yX11_loan ∈ tbG := tb_9 (List.mem_of_getElem? (i := 24) rfl) rfl
theorem cd_X11_loan : Cond.code yX11_loan cX11_loan 3 (some .int) ∈ tbG := tb_9 (List.mem_of_getElem? (i := 25) rfl) rfl
theorem lk_L_96 : Cond.methodLink RL 96 yX11_drown ∈ tbG := tb_9 (List.mem_of_getElem? (i := 26) rfl) rfl
theorem im_X11_drown : Cond.instanceMethod yX11_drown ∈ tbG := tb_9 (List.mem_of_getElem? (i := 27) rfl) rfl
theorem se_X11_drown : Cond.selects RX11 yX11_drown yX11_drown ∈ tbG := tb_9 (List.mem_of_getElem? (i := 28) rfl) rfl
theorem cd_X11_drown : Cond.code yX11_drown cX11_drown 4 (some .int) ∈ tbG := tb_9 (List.mem_of_getElem? (i := 29) rfl) rfl
theorem lk_L_100 : Cond.methodLink RL 100 yX11_melt ∈ tbG := tb_9 (List.mem_of_getElem? (i := 30) rfl) rfl
theorem im_X11_melt : Cond.instanceMethod yX11_melt ∈ tbG := tb_9 (List.mem_of_getElem? (i := 31) rfl) rfl
theorem se_X11_melt : Cond.selects RX11 yX11_melt yX11_melt ∈ tbG := tb_9 (List.mem_of_getElem? (i := 32) rfl) rfl
theorem cd_X11_melt : Cond.code yX11_melt cX11_melt 3 (some .int) ∈ tbG := tb_9 (List.mem_of_getElem? (i := 33) rfl) rfl
theorem lk_L_104 : Cond.methodLink RL 104 yX11_heir ∈ tbG := tb_9 (List.mem_of_getElem? (i := 34) rfl) rfl
theorem im_X11_heir : Cond.instanceMethod yX11_heir ∈ tbG := tb_9 (List.mem_of_getElem? (i := 35) rfl) rfl
theorem se_X11_heir : Cond.selects RX11 yX11_heir yX11_heir ∈ tbG := tb_9 (List.mem_of_getElem? (i := 36) rfl) rfl
theorem cd_X11_heir : Cond.code yX11_heir cX11_heir 6 (some .int) ∈ tbG := tb_9 (List.mem_of_getElem? (i := 37) rfl) rfl
theorem lk_X11_542 : Cond.methodLink RX11 542 yX11_empties ∈ tbG := tb_9 (List.mem_of_getElem? (i := 38) rfl) rfl
theorem im_X11_empties : Cond.instanceMethod yX11_empties ∈ tbG := tb_9 (List.mem_of_getElem? (i := 40) rfl) rfl
theorem cd_X11_empties : Cond.code yX11_empties cX11_empties 3 none ∈ tbG := tb_9 (List.mem_of_getElem? (i := 41) rfl) rfl
theorem lk_L_108 : Cond.methodLink RL 108 yX11_years ∈ tbG := tb_9 (List.mem_of_getElem? (i := 42) rfl) rfl
theorem im_X11_years : Cond.instanceMethod yX11_years ∈ tbG := tb_9 (List.mem_of_getElem? (i := 43) rfl) rfl
theorem se_X11_years : Cond.selects RX11 yX11_years yX11_years ∈ tbG := tb_9 (List.mem_of_getElem? (i := 44) rfl) rfl
theorem cd_X11_years : Cond.code yX11_years cX11_years 5 (some .int) ∈ tbG := tb_9 (List.mem_of_getElem? (i := 45) rfl) rfl
theorem lk_X11_545 : Cond.methodLink RX11 545 yX11_yearOf ∈ tbG := tb_9 (List.mem_of_getElem? (i := 46) rfl) rfl
theorem im_X11_yearOf : Cond.instanceMethod yX11_yearOf ∈ tbG := tb_9 (List.mem_of_getElem? (i := 48) rfl) rfl
theorem cd_X11_yearOf : Cond.code yX11_yearOf cX11_yearOf 6 (some .int) ∈ tbG := tb_9 (List.mem_of_getElem? (i := 49) rfl) rfl
theorem lk_L_112 : Cond.methodLink RL 112 yX11_feast ∈ tbG := tb_9 (List.mem_of_getElem? (i := 50) rfl) rfl
theorem im_X11_feast : Cond.instanceMethod yX11_feast ∈ tbG := tb_9 (List.mem_of_getElem? (i := 51) rfl) rfl
theorem se_X11_feast : Cond.selects RX11 yX11_feast yX11_feast ∈ tbG := tb_9 (List.mem_of_getElem? (i := 52) rfl) rfl
theorem cd_X11_feast : Cond.code yX11_feast cX11_feast 3 (some .int) ∈ tbG := tb_9 (List.mem_of_getElem? (i := 53) rfl) rfl
theorem lk_X11_559 : Cond.methodLink RX11 559 yX11_feastOf ∈ tbG := tb_9 (List.mem_of_getElem? (i := 54) rfl) rfl
theorem im_X11_feastOf : Cond.instanceMethod yX11_feastOf ∈ tbG := tb_9 (List.mem_of_getElem? (i := 56) rfl) rfl
theorem cd_X11_feastOf : Cond.code yX11_feastOf cX11_feastOf 5 (some .int) ∈ tbG := tb_9 (List.mem_of_getElem? (i := 57) rfl) rfl
theorem lk_X11_556 : Cond.methodLink RX11 556 yX11_drawn ∈ tbG := tb_9 (List.mem_of_getElem? (i := 58) rfl) rfl
theorem im_X11_drawn : Cond.instanceMethod yX11_drawn ∈ tbG := tb_9 (List.mem_of_getElem? (i := 60) rfl) rfl
theorem cd_X11_drawn : Cond.code yX11_drawn cX11_drawn 2 (some .int) ∈ tbG := tb_9 (List.mem_of_getElem? (i := 61) rfl) rfl
theorem lk_X11_548 : Cond.constantLong RX11 548 (1103515245) ∈ tbG := tb_9 (List.mem_of_getElem? (i := 62) rfl) rfl
theorem lk_X11_550 : Cond.constantLong RX11 550 (12345) ∈ tbG := tb_9 (List.mem_of_getElem? (i := 63) rfl) rfl
theorem lk_X11_552 : Cond.constantLong RX11 552 (2147483648) ∈ tbG := tb_9 (List.mem_of_getElem? (i := 64) rfl) rfl
theorem lk_X11_554 : Cond.constantLong RX11 554 (64) ∈ tbG := tb_9 (List.mem_of_getElem? (i := 65) rfl) rfl
theorem lk_L_116 : Cond.methodLink RL 116 yX11_seed ∈ tbG := tb_9 (List.mem_of_getElem? (i := 66) rfl) rfl
theorem im_X11_seed : Cond.instanceMethod yX11_seed ∈ tbG := tb_9 (List.mem_of_getElem? (i := 67) rfl) rfl
theorem se_X11_seed : Cond.selects RX11 yX11_seed yX11_seed ∈ tbG := tb_9 (List.mem_of_getElem? (i := 68) rfl) rfl
theorem cd_X11_seed : Cond.code yX11_seed cX11_seed 2 (some .boolean) ∈ tbG := tb_9 (List.mem_of_getElem? (i := 69) rfl) rfl
theorem lk_L_120 : Cond.methodLink RL 120 yX11_signed ∈ tbG := tb_9 (List.mem_of_getElem? (i := 70) rfl) rfl
theorem im_X11_signed : Cond.instanceMethod yX11_signed ∈ tbG := tb_9 (List.mem_of_getElem? (i := 71) rfl) rfl
theorem se_X11_signed : Cond.selects RX11 yX11_signed yX11_signed ∈ tbG := tb_9 (List.mem_of_getElem? (i := 72) rfl) rfl
theorem cd_X11_signed : Cond.code yX11_signed cX11_signed 5 (some .int) ∈ tbG := tb_9 (List.mem_of_getElem? (i := 73) rfl) rfl
theorem lk_L_124 : Cond.methodLink RL 124 yX11_span ∈ tbG := tb_9 (List.mem_of_getElem? (i := 74) rfl) rfl
theorem im_X11_span : Cond.instanceMethod yX11_span ∈ tbG := tb_9 (List.mem_of_getElem? (i := 75) rfl) rfl
theorem se_X11_span : Cond.selects RX11 yX11_span yX11_span ∈ tbG := tb_9 (List.mem_of_getElem? (i := 76) rfl) rfl
theorem cd_X11_span : Cond.code yX11_span cX11_span 3 (some .int) ∈ tbG := tb_9 (List.mem_of_getElem? (i := 77) rfl) rfl
theorem lk_L_128 : Cond.methodLink RL 128 yX11_moved ∈ tbG := tb_9 (List.mem_of_getElem? (i := 78) rfl) rfl
theorem im_X11_moved : Cond.instanceMethod yX11_moved ∈ tbG := tb_9 (List.mem_of_getElem? (i := 79) rfl) rfl
theorem se_X11_moved : Cond.selects RX11 yX11_moved yX11_moved ∈ tbG := tb_9 (List.mem_of_getElem? (i := 80) rfl) rfl
theorem cd_X11_moved : Cond.code yX11_moved cX11_moved 3 (some .int) ∈ tbG := tb_9 (List.mem_of_getElem? (i := 81) rfl) rfl
theorem lk_L_132 : Cond.methodLink RL 132 yX11_share ∈ tbG := tb_9 (List.mem_of_getElem? (i := 82) rfl) rfl
theorem im_X11_share : Cond.instanceMethod yX11_share ∈ tbG := tb_9 (List.mem_of_getElem? (i := 83) rfl) rfl
theorem se_X11_share : Cond.selects RX11 yX11_share yX11_share ∈ tbG := tb_9 (List.mem_of_getElem? (i := 84) rfl) rfl
theorem cd_X11_share : Cond.code yX11_share cX11_share 7 (some .int) ∈ tbG := tb_9 (List.mem_of_getElem? (i := 85) rfl) rfl
theorem lk_X11_566 : Cond.methodLink RX11 566 yX11_likelyOf ∈ tbG := tb_9 (List.mem_of_getElem? (i := 86) rfl) rfl
theorem im_X11_likelyOf : Cond.instanceMethod yX11_likelyOf ∈ tbG := tb_9 (List.mem_of_getElem? (i := 88) rfl) rfl
theorem cd_X11_likelyOf : Cond.code yX11_likelyOf cX11_likelyOf 8 (some .long) ∈ tbG := tb_9 (List.mem_of_getElem? (i := 89) rfl) rfl
theorem lk_X11_562 : Cond.constantLong RX11 562 (1000000000) ∈ tbG := tb_9 (List.mem_of_getElem? (i := 90) rfl) rfl
theorem lk_X11_564 : Cond.constantLong RX11 564 (100) ∈ tbG := tb_9 (List.mem_of_getElem? (i := 91) rfl) rfl
theorem lk_X11_569 : Cond.constantLong RX11 569 (1000) ∈ tbG := tb_9 (List.mem_of_getElem? (i := 92) rfl) rfl
theorem lk_L_136 : Cond.methodLink RL 136 yX11_bullets ∈ tbG := tb_9 (List.mem_of_getElem? (i := 93) rfl) rfl
theorem im_X11_bullets : Cond.instanceMethod yX11_bullets ∈ tbG := tb_9 (List.mem_of_getElem? (i := 94) rfl) rfl
theorem se_X11_bullets : Cond.selects RX11 yX11_bullets yX11_bullets ∈ tbG := tb_9 (List.mem_of_getElem? (i := 95) rfl) rfl
theorem cd_X11_bullets : Cond.code yX11_bullets cX11_bullets 9 (some .int) ∈ tbG := tb_9 (List.mem_of_getElem? (i := 96) rfl) rfl
theorem lk_X11_571 : Cond.constant RX11 571 (99999) ∈ tbG := tb_9 (List.mem_of_getElem? (i := 97) rfl) rfl
theorem lk_L_140 : Cond.methodLink RL 140 yX11_row ∈ tbG := tb_9 (List.mem_of_getElem? (i := 98) rfl) rfl
theorem im_X11_row : Cond.instanceMethod yX11_row ∈ tbG := tb_9 (List.mem_of_getElem? (i := 99) rfl) rfl
theorem se_X11_row : Cond.selects RX11 yX11_row yX11_row ∈ tbG := tb_9 (List.mem_of_getElem? (i := 100) rfl) rfl
theorem cd_X11_row : Cond.code yX11_row cX11_row 5 (some .int) ∈ tbG := tb_9 (List.mem_of_getElem? (i := 101) rfl) rfl
theorem lk_X11_575 : Cond.methodLink RX11 575 yX11_tries ∈ tbG := tb_9 (List.mem_of_getElem? (i := 102) rfl) rfl
theorem im_X11_tries : Cond.instanceMethod yX11_tries ∈ tbG := tb_9 (List.mem_of_getElem? (i := 104) rfl) rfl
theorem cd_X11_tries : Cond.code yX11_tries cX11_tries 9 none ∈ tbG := tb_9 (List.mem_of_getElem? (i := 105) rfl) rfl
theorem lk_X11_572 : Cond.methodLink RX11 572 yX11_letterOf ∈ tbG := tb_9 (List.mem_of_getElem? (i := 106) rfl) rfl
theorem im_X11_letterOf : Cond.instanceMethod yX11_letterOf ∈ tbG := tb_9 (List.mem_of_getElem? (i := 108) rfl) rfl
theorem cd_X11_letterOf : Cond.code yX11_letterOf cX11_letterOf 3 (some .int) ∈ tbG := tb_9 (List.mem_of_getElem? (i := 109) rfl) rfl
theorem lk_L_144 : Cond.methodLink RL 144 yX11_goings ∈ tbG := tb_9 (List.mem_of_getElem? (i := 110) rfl) rfl
theorem im_X11_goings : Cond.instanceMethod yX11_goings ∈ tbG := tb_9 (List.mem_of_getElem? (i := 111) rfl) rfl
theorem se_X11_goings : Cond.selects RX11 yX11_goings yX11_goings ∈ tbG := tb_9 (List.mem_of_getElem? (i := 112) rfl) rfl
theorem cd_X11_goings : Cond.code yX11_goings cX11_goings 8 (some .int) ∈ tbG := tb_9 (List.mem_of_getElem? (i := 113) rfl) rfl
theorem lk_L_148 : Cond.methodLink RL 148 yX11_common ∈ tbG := tb_9 (List.mem_of_getElem? (i := 114) rfl) rfl
theorem im_X11_common : Cond.instanceMethod yX11_common ∈ tbG := tb_9 (List.mem_of_getElem? (i := 115) rfl) rfl
theorem se_X11_common : Cond.selects RX11 yX11_common yX11_common ∈ tbG := tb_9 (List.mem_of_getElem? (i := 116) rfl) rfl
theorem cd_X11_common : Cond.code yX11_common cX11_common 7 (some .int) ∈ tbG := tb_9 (List.mem_of_getElem? (i := 117) rfl) rfl
theorem lk_L_152 : Cond.methodLink RL 152 yX11_image ∈ tbG := tb_9 (List.mem_of_getElem? (i := 118) rfl) rfl
theorem im_X11_image : Cond.instanceMethod yX11_image ∈ tbG := tb_9 (List.mem_of_getElem? (i := 119) rfl) rfl
theorem se_X11_image : Cond.selects RX11 yX11_image yX11_image ∈ tbG := tb_9 (List.mem_of_getElem? (i := 120) rfl) rfl
theorem cd_X11_image : Cond.code yX11_image cX11_image 3 (some .int) ∈ tbG := tb_9 (List.mem_of_getElem? (i := 121) rfl) rfl
theorem lk_X11_582 : Cond.methodLink RX11 582 yX11_writes2 ∈ tbG := tb_9 (List.mem_of_getElem? (i := 122) rfl) rfl
theorem im_X11_writes2 : Cond.instanceMethod yX11_writes2 ∈ tbG := tb_9 (List.mem_of_getElem? (i := 124) rfl) rfl
theorem cd_X11_writes2 : Cond.code yX11_writes2 cX11_writes2 2 none ∈ tbG := tb_9 (List.mem_of_getElem? (i := 125) rfl) rfl
theorem lk_X11_579 : Cond.methodLink RX11 579 yX11_writes ∈ tbG := tb_9 (List.mem_of_getElem? (i := 126) rfl) rfl
theorem im_X11_writes : Cond.instanceMethod yX11_writes ∈ tbG := tb_9 (List.mem_of_getElem? (i := 128) rfl) rfl
theorem cd_X11_writes : Cond.code yX11_writes cX11_writes 2 none ∈ tbG := tb_9 (List.mem_of_getElem? (i := 129) rfl) rfl
theorem lk_L_156 : Cond.methodLink RL 156 yX11_octet ∈ tbG := tb_9 (List.mem_of_getElem? (i := 130) rfl) rfl
theorem im_X11_octet : Cond.instanceMethod yX11_octet ∈ tbG := tb_9 (List.mem_of_getElem? (i := 131) rfl) rfl
theorem se_X11_octet : Cond.selects RX11 yX11_octet yX11_octet ∈ tbG := tb_9 (List.mem_of_getElem? (i := 132) rfl) rfl
theorem cd_X11_octet : Cond.code yX11_octet cX11_octet 2 (some .int) ∈ tbG := tb_9 (List.mem_of_getElem? (i := 133) rfl) rfl
theorem lk_L_161 : Cond.methodLink RL 161 yX11_on ∈ tbG := tb_9 (List.mem_of_getElem? (i := 134) rfl) rfl
theorem im_X11_on : Cond.instanceMethod yX11_on ∈ tbG := tb_9 (List.mem_of_getElem? (i := 135) rfl) rfl
theorem se_X11_on : Cond.selects RX11 yX11_on yX11_on ∈ tbG := tb_9 (List.mem_of_getElem? (i := 136) rfl) rfl
theorem cd_X11_on : Cond.code yX11_on cX11_on 4 (some .boolean) ∈ tbG := tb_9 (List.mem_of_getElem? (i := 137) rfl) rfl
theorem lk_X11_596 : Cond.methodLink RX11 596 yX11_isWhole ∈ tbG := tb_9 (List.mem_of_getElem? (i := 138) rfl) rfl
theorem im_X11_isWhole : Cond.instanceMethod yX11_isWhole ∈ tbG := tb_9 (List.mem_of_getElem? (i := 140) rfl) rfl
theorem cd_X11_isWhole : Cond.code yX11_isWhole cX11_isWhole 12 (some .boolean) ∈ tbG := tb_9 (List.mem_of_getElem? (i := 141) rfl) rfl
theorem lk_X11_585 : Cond.methodLink RX11 585 yX11_two ∈ tbG := tb_9 (List.mem_of_getElem? (i := 142) rfl) rfl
theorem im_X11_two : Cond.instanceMethod yX11_two ∈ tbG := tb_9 (List.mem_of_getElem? (i := 144) rfl) rfl
theorem cd_X11_two : Cond.code yX11_two cX11_two 2 (some .int) ∈ tbG := tb_9 (List.mem_of_getElem? (i := 145) rfl) rfl
theorem lk_X11_588 : Cond.methodLink RX11 588 yX11_rowAt ∈ tbG := tb_9 (List.mem_of_getElem? (i := 146) rfl) rfl
theorem im_X11_rowAt : Cond.instanceMethod yX11_rowAt ∈ tbG := tb_9 (List.mem_of_getElem? (i := 148) rfl) rfl
theorem cd_X11_rowAt : Cond.code yX11_rowAt cX11_rowAt 6 (some .long) ∈ tbG := tb_9 (List.mem_of_getElem? (i := 149) rfl) rfl
theorem lk_X11_592 : Cond.constantLong RX11 592 (65536) ∈ tbG := tb_9 (List.mem_of_getElem? (i := 150) rfl) rfl
theorem lk_X11_594 : Cond.constantLong RX11 594 (9999999) ∈ tbG := tb_9 (List.mem_of_getElem? (i := 151) rfl) rfl
theorem lk_X11_599 : Cond.constant RX11 599 (65536) ∈ tbG := tb_9 (List.mem_of_getElem? (i := 152) rfl) rfl
theorem se_X6_fillOwnNames : Cond.selects RX6 yX6_fillOwnNames yX6_fillOwnNames ∈ tbG := tb_p (List.mem_of_getElem? (i := 0) rfl) rfl
theorem se_X10_counted : Cond.selects RX10 yX10_counted yX10_counted ∈ tbG := tb_p (List.mem_of_getElem? (i := 1) rfl) rfl
theorem se_X10_putOnTape : Cond.selects RX10 yX10_putOnTape yX10_putOnTape ∈ tbG := tb_p (List.mem_of_getElem? (i := 2) rfl) rfl
theorem se_X10_granted : Cond.selects RX10 yX10_granted yX10_granted ∈ tbG := tb_p (List.mem_of_getElem? (i := 3) rfl) rfl
theorem se_X6_readWord : Cond.selects RX6 yX6_readWord yX6_readWord ∈ tbG := tb_p (List.mem_of_getElem? (i := 4) rfl) rfl
theorem se_X6_readNumber : Cond.selects RX6 yX6_readNumber yX6_readNumber ∈ tbG := tb_p (List.mem_of_getElem? (i := 5) rfl) rfl
theorem se_X5_letterOunces : Cond.selects RX5 yX5_letterOunces yX5_letterOunces ∈ tbG := tb_p (List.mem_of_getElem? (i := 6) rfl) rfl
theorem se_X5_oneLetter : Cond.selects RX5 yX5_oneLetter yX5_oneLetter ∈ tbG := tb_p (List.mem_of_getElem? (i := 7) rfl) rfl
theorem se_X5_number : Cond.selects RX5 yX5_number yX5_number ∈ tbG := tb_p (List.mem_of_getElem? (i := 8) rfl) rfl
theorem se_X5_newPerson : Cond.selects RX5 yX5_newPerson yX5_newPerson ∈ tbG := tb_p (List.mem_of_getElem? (i := 9) rfl) rfl
theorem se_X5_begin : Cond.selects RX5 yX5_begin yX5_begin ∈ tbG := tb_p (List.mem_of_getElem? (i := 10) rfl) rfl
theorem se_X5_newName : Cond.selects RX5 yX5_newName yX5_newName ∈ tbG := tb_p (List.mem_of_getElem? (i := 11) rfl) rfl
theorem se_X5_token : Cond.selects RX5 yX5_token yX5_token ∈ tbG := tb_p (List.mem_of_getElem? (i := 12) rfl) rfl
theorem se_X5_keep : Cond.selects RX5 yX5_keep yX5_keep ∈ tbG := tb_p (List.mem_of_getElem? (i := 13) rfl) rfl
theorem se_X5_newTitle : Cond.selects RX5 yX5_newTitle yX5_newTitle ∈ tbG := tb_p (List.mem_of_getElem? (i := 14) rfl) rfl
theorem se_X5_titleHad : Cond.selects RX5 yX5_titleHad yX5_titleHad ∈ tbG := tb_p (List.mem_of_getElem? (i := 15) rfl) rfl
theorem se_X5_knownName : Cond.selects RX5 yX5_knownName yX5_knownName ∈ tbG := tb_p (List.mem_of_getElem? (i := 16) rfl) rfl
theorem se_X5_heapLetters : Cond.selects RX5 yX5_heapLetters yX5_heapLetters ∈ tbG := tb_p (List.mem_of_getElem? (i := 17) rfl) rfl
theorem se_X5_newAge : Cond.selects RX5 yX5_newAge yX5_newAge ∈ tbG := tb_p (List.mem_of_getElem? (i := 18) rfl) rfl
theorem se_X5_newLaw : Cond.selects RX5 yX5_newLaw yX5_newLaw ∈ tbG := tb_p (List.mem_of_getElem? (i := 19) rfl) rfl
theorem se_X5_sum : Cond.selects RX5 yX5_sum yX5_sum ∈ tbG := tb_p (List.mem_of_getElem? (i := 20) rfl) rfl
theorem se_X5_product : Cond.selects RX5 yX5_product yX5_product ∈ tbG := tb_p (List.mem_of_getElem? (i := 21) rfl) rfl
theorem se_X5_part : Cond.selects RX5 yX5_part yX5_part ∈ tbG := tb_p (List.mem_of_getElem? (i := 22) rfl) rfl
theorem se_X5_step : Cond.selects RX5 yX5_step yX5_step ∈ tbG := tb_p (List.mem_of_getElem? (i := 23) rfl) rfl
theorem se_X5_bracket : Cond.selects RX5 yX5_bracket yX5_bracket ∈ tbG := tb_p (List.mem_of_getElem? (i := 24) rfl) rfl
theorem se_X5_choice : Cond.selects RX5 yX5_choice yX5_choice ∈ tbG := tb_p (List.mem_of_getElem? (i := 25) rfl) rfl
theorem se_X5_test : Cond.selects RX5 yX5_test yX5_test ∈ tbG := tb_p (List.mem_of_getElem? (i := 26) rfl) rfl
theorem se_X5_both : Cond.selects RX5 yX5_both yX5_both ∈ tbG := tb_p (List.mem_of_getElem? (i := 27) rfl) rfl
theorem se_X5_fact : Cond.selects RX5 yX5_fact yX5_fact ∈ tbG := tb_p (List.mem_of_getElem? (i := 28) rfl) rfl
theorem se_X5_comparisonSign : Cond.selects RX5 yX5_comparisonSign yX5_comparisonSign ∈ tbG := tb_p (List.mem_of_getElem? (i := 29) rfl) rfl
theorem se_X5_newBridge : Cond.selects RX5 yX5_newBridge yX5_newBridge ∈ tbG := tb_p (List.mem_of_getElem? (i := 30) rfl) rfl
theorem se_X5_yearNow : Cond.selects RX5 yX5_yearNow yX5_yearNow ∈ tbG := tb_p (List.mem_of_getElem? (i := 31) rfl) rfl
theorem se_X0_run : Cond.selects RX0 yX0_run yX0_run ∈ tbG := tb_p (List.mem_of_getElem? (i := 32) rfl) rfl
theorem se_X0_push : Cond.selects RX0 yX0_push yX0_push ∈ tbG := tb_p (List.mem_of_getElem? (i := 33) rfl) rfl
theorem se_X0_pop : Cond.selects RX0 yX0_pop yX0_pop ∈ tbG := tb_p (List.mem_of_getElem? (i := 34) rfl) rfl
theorem se_X10_bestOfAll : Cond.selects RX10 yX10_bestOfAll yX10_bestOfAll ∈ tbG := tb_p (List.mem_of_getElem? (i := 35) rfl) rfl
theorem se_X9_choose : Cond.selects RX9 yX9_choose yX9_choose ∈ tbG := tb_p (List.mem_of_getElem? (i := 36) rfl) rfl
theorem se_X9_compare : Cond.selects RX9 yX9_compare yX9_compare ∈ tbG := tb_p (List.mem_of_getElem? (i := 37) rfl) rfl
theorem se_X2_countLetters : Cond.selects RX2 yX2_countLetters yX2_countLetters ∈ tbG := tb_p (List.mem_of_getElem? (i := 38) rfl) rfl
theorem se_X2_canLay : Cond.selects RX2 yX2_canLay yX2_canLay ∈ tbG := tb_p (List.mem_of_getElem? (i := 39) rfl) rfl
theorem se_X1_note : Cond.selects RX1 yX1_note yX1_note ∈ tbG := tb_p (List.mem_of_getElem? (i := 40) rfl) rfl
theorem se_X7_place : Cond.selects RX7 yX7_place yX7_place ∈ tbG := tb_p (List.mem_of_getElem? (i := 41) rfl) rfl
theorem se_X1_lighten : Cond.selects RX1 yX1_lighten yX1_lighten ∈ tbG := tb_p (List.mem_of_getElem? (i := 42) rfl) rfl
theorem se_X4_likely : Cond.selects RX4 yX4_likely yX4_likely ∈ tbG := tb_p (List.mem_of_getElem? (i := 43) rfl) rfl
theorem se_X9_collect : Cond.selects RX9 yX9_collect yX9_collect ∈ tbG := tb_p (List.mem_of_getElem? (i := 44) rfl) rfl
theorem se_X9_place : Cond.selects RX9 yX9_place yX9_place ∈ tbG := tb_p (List.mem_of_getElem? (i := 45) rfl) rfl
theorem se_X3_put : Cond.selects RX3 yX3_put yX3_put ∈ tbG := tb_p (List.mem_of_getElem? (i := 46) rfl) rfl
theorem se_X3_putLetters : Cond.selects RX3 yX3_putLetters yX3_putLetters ∈ tbG := tb_p (List.mem_of_getElem? (i := 47) rfl) rfl
theorem se_X11_refuses : Cond.selects RX11 yX11_refuses yX11_refuses ∈ tbG := tb_p (List.mem_of_getElem? (i := 48) rfl) rfl
theorem se_X11_put : Cond.selects RX11 yX11_put yX11_put ∈ tbG := tb_p (List.mem_of_getElem? (i := 49) rfl) rfl
theorem se_X11_ahead : Cond.selects RX11 yX11_ahead yX11_ahead ∈ tbG := tb_p (List.mem_of_getElem? (i := 50) rfl) rfl
theorem se_X11_blame : Cond.selects RX11 yX11_blame yX11_blame ∈ tbG := tb_p (List.mem_of_getElem? (i := 51) rfl) rfl
theorem se_X11_statement : Cond.selects RX11 yX11_statement yX11_statement ∈ tbG := tb_p (List.mem_of_getElem? (i := 52) rfl) rfl
theorem se_X11_isWord : Cond.selects RX11 yX11_isWord yX11_isWord ∈ tbG := tb_p (List.mem_of_getElem? (i := 53) rfl) rfl
theorem se_X11_weighs : Cond.selects RX11 yX11_weighs yX11_weighs ∈ tbG := tb_p (List.mem_of_getElem? (i := 54) rfl) rfl
theorem se_X11_counts : Cond.selects RX11 yX11_counts yX11_counts ∈ tbG := tb_p (List.mem_of_getElem? (i := 55) rfl) rfl
theorem se_X11_oneLetter : Cond.selects RX11 yX11_oneLetter yX11_oneLetter ∈ tbG := tb_p (List.mem_of_getElem? (i := 56) rfl) rfl
theorem se_X11_number : Cond.selects RX11 yX11_number yX11_number ∈ tbG := tb_p (List.mem_of_getElem? (i := 57) rfl) rfl
theorem se_X11_person : Cond.selects RX11 yX11_person yX11_person ∈ tbG := tb_p (List.mem_of_getElem? (i := 58) rfl) rfl
theorem se_X11_fresh : Cond.selects RX11 yX11_fresh yX11_fresh ∈ tbG := tb_p (List.mem_of_getElem? (i := 59) rfl) rfl
theorem se_X11_isOwn : Cond.selects RX11 yX11_isOwn yX11_isOwn ∈ tbG := tb_p (List.mem_of_getElem? (i := 60) rfl) rfl
theorem se_X11_named : Cond.selects RX11 yX11_named yX11_named ∈ tbG := tb_p (List.mem_of_getElem? (i := 61) rfl) rfl
theorem se_X11_nameOf : Cond.selects RX11 yX11_nameOf yX11_nameOf ∈ tbG := tb_p (List.mem_of_getElem? (i := 62) rfl) rfl
theorem se_X11_must_ : Cond.selects RX11 yX11_must_ yX11_must_ ∈ tbG := tb_p (List.mem_of_getElem? (i := 63) rfl) rfl
theorem se_X11_title : Cond.selects RX11 yX11_title yX11_title ∈ tbG := tb_p (List.mem_of_getElem? (i := 64) rfl) rfl
theorem se_X11_having : Cond.selects RX11 yX11_having yX11_having ∈ tbG := tb_p (List.mem_of_getElem? (i := 65) rfl) rfl
theorem se_X11_asked : Cond.selects RX11 yX11_asked yX11_asked ∈ tbG := tb_p (List.mem_of_getElem? (i := 66) rfl) rfl
theorem se_X11_heaping : Cond.selects RX11 yX11_heaping yX11_heaping ∈ tbG := tb_p (List.mem_of_getElem? (i := 67) rfl) rfl
theorem se_X11_others : Cond.selects RX11 yX11_others yX11_others ∈ tbG := tb_p (List.mem_of_getElem? (i := 68) rfl) rfl
theorem se_X11_ageing : Cond.selects RX11 yX11_ageing yX11_ageing ∈ tbG := tb_p (List.mem_of_getElem? (i := 69) rfl) rfl
theorem se_X11_law : Cond.selects RX11 yX11_law yX11_law ∈ tbG := tb_p (List.mem_of_getElem? (i := 70) rfl) rfl
theorem se_X11_reads : Cond.selects RX11 yX11_reads yX11_reads ∈ tbG := tb_p (List.mem_of_getElem? (i := 71) rfl) rfl
theorem se_X11_pushes : Cond.selects RX11 yX11_pushes yX11_pushes ∈ tbG := tb_p (List.mem_of_getElem? (i := 72) rfl) rfl
theorem se_X11_operand : Cond.selects RX11 yX11_operand yX11_operand ∈ tbG := tb_p (List.mem_of_getElem? (i := 73) rfl) rfl
theorem se_X11_holdsBack : Cond.selects RX11 yX11_holdsBack yX11_holdsBack ∈ tbG := tb_p (List.mem_of_getElem? (i := 74) rfl) rfl
theorem se_X11_isSign : Cond.selects RX11 yX11_isSign yX11_isSign ∈ tbG := tb_p (List.mem_of_getElem? (i := 75) rfl) rfl
theorem se_X11_opens : Cond.selects RX11 yX11_opens yX11_opens ∈ tbG := tb_p (List.mem_of_getElem? (i := 76) rfl) rfl
theorem se_X11_add : Cond.selects RX11 yX11_add yX11_add ∈ tbG := tb_p (List.mem_of_getElem? (i := 77) rfl) rfl
theorem se_X11_goesOn : Cond.selects RX11 yX11_goesOn yX11_goesOn ∈ tbG := tb_p (List.mem_of_getElem? (i := 78) rfl) rfl
theorem se_X11_joins : Cond.selects RX11 yX11_joins yX11_joins ∈ tbG := tb_p (List.mem_of_getElem? (i := 79) rfl) rfl
theorem se_X11_bridge : Cond.selects RX11 yX11_bridge yX11_bridge ∈ tbG := tb_p (List.mem_of_getElem? (i := 80) rfl) rfl
theorem se_X11_dating : Cond.selects RX11 yX11_dating yX11_dating ∈ tbG := tb_p (List.mem_of_getElem? (i := 81) rfl) rfl
theorem se_X11_must : Cond.selects RX11 yX11_must yX11_must ∈ tbG := tb_p (List.mem_of_getElem? (i := 82) rfl) rfl
theorem se_X11_begins : Cond.selects RX11 yX11_begins yX11_begins ∈ tbG := tb_p (List.mem_of_getElem? (i := 83) rfl) rfl
theorem se_X11_manyOf : Cond.selects RX11 yX11_manyOf yX11_manyOf ∈ tbG := tb_p (List.mem_of_getElem? (i := 84) rfl) rfl
theorem se_X11_weight : Cond.selects RX11 yX11_weight yX11_weight ∈ tbG := tb_p (List.mem_of_getElem? (i := 85) rfl) rfl
theorem se_X11_isTitle : Cond.selects RX11 yX11_isTitle yX11_isTitle ∈ tbG := tb_p (List.mem_of_getElem? (i := 86) rfl) rfl
theorem se_X11_hasTitle : Cond.selects RX11 yX11_hasTitle yX11_hasTitle ∈ tbG := tb_p (List.mem_of_getElem? (i := 87) rfl) rfl
theorem se_X11_ouncesOf : Cond.selects RX11 yX11_ouncesOf yX11_ouncesOf ∈ tbG := tb_p (List.mem_of_getElem? (i := 88) rfl) rfl
theorem se_X11_honourOf : Cond.selects RX11 yX11_honourOf yX11_honourOf ∈ tbG := tb_p (List.mem_of_getElem? (i := 89) rfl) rfl
theorem se_X11_lengthOf : Cond.selects RX11 yX11_lengthOf yX11_lengthOf ∈ tbG := tb_p (List.mem_of_getElem? (i := 90) rfl) rfl
theorem se_X11_isPerson : Cond.selects RX11 yX11_isPerson yX11_isPerson ∈ tbG := tb_p (List.mem_of_getElem? (i := 91) rfl) rfl
theorem se_X11_ageOf : Cond.selects RX11 yX11_ageOf yX11_ageOf ∈ tbG := tb_p (List.mem_of_getElem? (i := 92) rfl) rfl
theorem se_X11_limitOf : Cond.selects RX11 yX11_limitOf yX11_limitOf ∈ tbG := tb_p (List.mem_of_getElem? (i := 93) rfl) rfl
theorem se_X11_sumOf : Cond.selects RX11 yX11_sumOf yX11_sumOf ∈ tbG := tb_p (List.mem_of_getElem? (i := 94) rfl) rfl
theorem se_X11_works : Cond.selects RX11 yX11_works yX11_works ∈ tbG := tb_p (List.mem_of_getElem? (i := 95) rfl) rfl
theorem se_X11_loadOf : Cond.selects RX11 yX11_loadOf yX11_loadOf ∈ tbG := tb_p (List.mem_of_getElem? (i := 96) rfl) rfl
theorem se_X11_looseOunces : Cond.selects RX11 yX11_looseOunces yX11_looseOunces ∈ tbG := tb_p (List.mem_of_getElem? (i := 97) rfl) rfl
theorem se_X11_looseMany : Cond.selects RX11 yX11_looseMany yX11_looseMany ∈ tbG := tb_p (List.mem_of_getElem? (i := 98) rfl) rfl
theorem se_X11_bestSet : Cond.selects RX11 yX11_bestSet yX11_bestSet ∈ tbG := tb_p (List.mem_of_getElem? (i := 99) rfl) rfl
theorem se_X11_calledBy : Cond.selects RX11 yX11_calledBy yX11_calledBy ∈ tbG := tb_p (List.mem_of_getElem? (i := 100) rfl) rfl
theorem se_X11_often : Cond.selects RX11 yX11_often yX11_often ∈ tbG := tb_p (List.mem_of_getElem? (i := 101) rfl) rfl
theorem se_X11_allOf : Cond.selects RX11 yX11_allOf yX11_allOf ∈ tbG := tb_p (List.mem_of_getElem? (i := 102) rfl) rfl
theorem se_X11_coatsAll : Cond.selects RX11 yX11_coatsAll yX11_coatsAll ∈ tbG := tb_p (List.mem_of_getElem? (i := 103) rfl) rfl
theorem se_X11_bulletsAll : Cond.selects RX11 yX11_bulletsAll yX11_bulletsAll ∈ tbG := tb_p (List.mem_of_getElem? (i := 104) rfl) rfl
theorem se_X11_canGain : Cond.selects RX11 yX11_canGain yX11_canGain ∈ tbG := tb_p (List.mem_of_getElem? (i := 105) rfl) rfl
theorem se_X11_lacks : Cond.selects RX11 yX11_lacks yX11_lacks ∈ tbG := tb_p (List.mem_of_getElem? (i := 106) rfl) rfl
theorem se_X11_lackOunces : Cond.selects RX11 yX11_lackOunces yX11_lackOunces ∈ tbG := tb_p (List.mem_of_getElem? (i := 107) rfl) rfl
theorem se_X11_gains : Cond.selects RX11 yX11_gains yX11_gains ∈ tbG := tb_p (List.mem_of_getElem? (i := 108) rfl) rfl
theorem se_X11_comes : Cond.selects RX11 yX11_comes yX11_comes ∈ tbG := tb_p (List.mem_of_getElem? (i := 109) rfl) rfl
theorem se_X11_notes : Cond.selects RX11 yX11_notes yX11_notes ∈ tbG := tb_p (List.mem_of_getElem? (i := 110) rfl) rfl
theorem se_X11_sheds : Cond.selects RX11 yX11_sheds yX11_sheds ∈ tbG := tb_p (List.mem_of_getElem? (i := 111) rfl) rfl
theorem se_X11_goes : Cond.selects RX11 yX11_goes yX11_goes ∈ tbG := tb_p (List.mem_of_getElem? (i := 112) rfl) rfl
theorem se_X11_lays : Cond.selects RX11 yX11_lays yX11_lays ∈ tbG := tb_p (List.mem_of_getElem? (i := 113) rfl) rfl
theorem se_X11_unpicked : Cond.selects RX11 yX11_unpicked yX11_unpicked ∈ tbG := tb_p (List.mem_of_getElem? (i := 114) rfl) rfl
theorem se_X11_canBack : Cond.selects RX11 yX11_canBack yX11_canBack ∈ tbG := tb_p (List.mem_of_getElem? (i := 115) rfl) rfl
theorem se_X11_empties : Cond.selects RX11 yX11_empties yX11_empties ∈ tbG := tb_p (List.mem_of_getElem? (i := 116) rfl) rfl
theorem se_X11_yearOf : Cond.selects RX11 yX11_yearOf yX11_yearOf ∈ tbG := tb_p (List.mem_of_getElem? (i := 117) rfl) rfl
theorem se_X11_feastOf : Cond.selects RX11 yX11_feastOf yX11_feastOf ∈ tbG := tb_p (List.mem_of_getElem? (i := 118) rfl) rfl
theorem se_X11_drawn : Cond.selects RX11 yX11_drawn yX11_drawn ∈ tbG := tb_p (List.mem_of_getElem? (i := 119) rfl) rfl
theorem se_X11_likelyOf : Cond.selects RX11 yX11_likelyOf yX11_likelyOf ∈ tbG := tb_p (List.mem_of_getElem? (i := 120) rfl) rfl
theorem se_X11_tries : Cond.selects RX11 yX11_tries yX11_tries ∈ tbG := tb_p (List.mem_of_getElem? (i := 121) rfl) rfl
theorem se_X11_letterOf : Cond.selects RX11 yX11_letterOf yX11_letterOf ∈ tbG := tb_p (List.mem_of_getElem? (i := 122) rfl) rfl
theorem se_X11_writes2 : Cond.selects RX11 yX11_writes2 yX11_writes2 ∈ tbG := tb_p (List.mem_of_getElem? (i := 123) rfl) rfl
theorem se_X11_writes : Cond.selects RX11 yX11_writes yX11_writes ∈ tbG := tb_p (List.mem_of_getElem? (i := 124) rfl) rfl
theorem se_X11_isWhole : Cond.selects RX11 yX11_isWhole yX11_isWhole ∈ tbG := tb_p (List.mem_of_getElem? (i := 125) rfl) rfl
theorem se_X11_two : Cond.selects RX11 yX11_two yX11_two ∈ tbG := tb_p (List.mem_of_getElem? (i := 126) rfl) rfl
theorem se_X11_rowAt : Cond.selects RX11 yX11_rowAt yX11_rowAt ∈ tbG := tb_p (List.mem_of_getElem? (i := 127) rfl) rfl
theorem ly_X0_0 : u_lay RX0 TX0 0 ∈ tbG := tb_2 (List.mem_of_getElem? (i := 93) rfl) rfl
theorem ly_X0_1 : u_lay RX0 TX0 1 ∈ tbG := tb_2 (List.mem_of_getElem? (i := 95) rfl) rfl
theorem ly_X0_2 : u_lay RX0 TX0 2 ∈ tbG := tb_2 (List.mem_of_getElem? (i := 97) rfl) rfl
theorem inl_X0 : ∀ w ∈ u_ws RX0 TX0 3, w ∈ tbG := by
  intro w hw
  obtain ⟨k, hk, rfl⟩ := List.mem_map.mp hw
  have hk := List.mem_range.mp hk
  match k, hk with
  | 0, _ => exact ly_X0_0
  | 1, _ => exact ly_X0_1
  | 2, _ => exact ly_X0_2
  | k + 3, h => exact absurd h (by omega)
theorem ly_X1_0 : u_lay RX1 TX1 0 ∈ tbG := tb_2 (List.mem_of_getElem? (i := 171) rfl) rfl
theorem ly_X1_1 : u_lay RX1 TX1 1 ∈ tbG := tb_2 (List.mem_of_getElem? (i := 173) rfl) rfl
theorem ly_X1_2 : u_lay RX1 TX1 2 ∈ tbG := tb_2 (List.mem_of_getElem? (i := 175) rfl) rfl
theorem ly_X1_3 : u_lay RX1 TX1 3 ∈ tbG := tb_2 (List.mem_of_getElem? (i := 177) rfl) rfl
theorem ly_X1_4 : u_lay RX1 TX1 4 ∈ tbG := tb_2 (List.mem_of_getElem? (i := 179) rfl) rfl
theorem inl_X1 : ∀ w ∈ u_ws RX1 TX1 5, w ∈ tbG := by
  intro w hw
  obtain ⟨k, hk, rfl⟩ := List.mem_map.mp hw
  have hk := List.mem_range.mp hk
  match k, hk with
  | 0, _ => exact ly_X1_0
  | 1, _ => exact ly_X1_1
  | 2, _ => exact ly_X1_2
  | 3, _ => exact ly_X1_3
  | 4, _ => exact ly_X1_4
  | k + 5, h => exact absurd h (by omega)
theorem ly_X2_0 : u_lay RX2 TX2 0 ∈ tbG := tb_2 (List.mem_of_getElem? (i := 129) rfl) rfl
theorem ly_X2_1 : u_lay RX2 TX2 1 ∈ tbG := tb_2 (List.mem_of_getElem? (i := 131) rfl) rfl
theorem ly_X2_2 : u_lay RX2 TX2 2 ∈ tbG := tb_2 (List.mem_of_getElem? (i := 133) rfl) rfl
theorem ly_X2_3 : u_lay RX2 TX2 3 ∈ tbG := tb_2 (List.mem_of_getElem? (i := 135) rfl) rfl
theorem ly_X2_4 : u_lay RX2 TX2 4 ∈ tbG := tb_2 (List.mem_of_getElem? (i := 137) rfl) rfl
theorem ly_X2_5 : u_lay RX2 TX2 5 ∈ tbG := tb_2 (List.mem_of_getElem? (i := 139) rfl) rfl
theorem ly_X2_6 : u_lay RX2 TX2 6 ∈ tbG := tb_2 (List.mem_of_getElem? (i := 141) rfl) rfl
theorem ly_X2_7 : u_lay RX2 TX2 7 ∈ tbG := tb_2 (List.mem_of_getElem? (i := 143) rfl) rfl
theorem ly_X2_8 : u_lay RX2 TX2 8 ∈ tbG := tb_2 (List.mem_of_getElem? (i := 145) rfl) rfl
theorem ly_X2_9 : u_lay RX2 TX2 9 ∈ tbG := tb_2 (List.mem_of_getElem? (i := 147) rfl) rfl
theorem ly_X2_10 : u_lay RX2 TX2 10 ∈ tbG := tb_2 (List.mem_of_getElem? (i := 149) rfl) rfl
theorem ly_X2_11 : u_lay RX2 TX2 11 ∈ tbG := tb_2 (List.mem_of_getElem? (i := 151) rfl) rfl
theorem inl_X2 : ∀ w ∈ u_ws RX2 TX2 12, w ∈ tbG := by
  intro w hw
  obtain ⟨k, hk, rfl⟩ := List.mem_map.mp hw
  have hk := List.mem_range.mp hk
  match k, hk with
  | 0, _ => exact ly_X2_0
  | 1, _ => exact ly_X2_1
  | 2, _ => exact ly_X2_2
  | 3, _ => exact ly_X2_3
  | 4, _ => exact ly_X2_4
  | 5, _ => exact ly_X2_5
  | 6, _ => exact ly_X2_6
  | 7, _ => exact ly_X2_7
  | 8, _ => exact ly_X2_8
  | 9, _ => exact ly_X2_9
  | 10, _ => exact ly_X2_10
  | 11, _ => exact ly_X2_11
  | k + 12, h => exact absurd h (by omega)
theorem ly_X3_0 : u_lay RX3 TX3 0 ∈ tbG := tb_2 (List.mem_of_getElem? (i := 192) rfl) rfl
theorem ly_X3_1 : u_lay RX3 TX3 1 ∈ tbG := tb_2 (List.mem_of_getElem? (i := 194) rfl) rfl
theorem inl_X3 : ∀ w ∈ u_ws RX3 TX3 2, w ∈ tbG := by
  intro w hw
  obtain ⟨k, hk, rfl⟩ := List.mem_map.mp hw
  have hk := List.mem_range.mp hk
  match k, hk with
  | 0, _ => exact ly_X3_0
  | 1, _ => exact ly_X3_1
  | k + 2, h => exact absurd h (by omega)
theorem ly_X4_0 : u_lay RX4 TX4 0 ∈ tbG := tb_1 (List.mem_of_getElem? (i := 201) rfl) rfl
theorem ly_X4_1 : u_lay RX4 TX4 1 ∈ tbG := tb_1 (List.mem_of_getElem? (i := 203) rfl) rfl
theorem ly_X4_2 : u_lay RX4 TX4 2 ∈ tbG := tb_1 (List.mem_of_getElem? (i := 205) rfl) rfl
theorem ly_X4_3 : u_lay RX4 TX4 3 ∈ tbG := tb_1 (List.mem_of_getElem? (i := 207) rfl) rfl
theorem ly_X4_4 : u_lay RX4 TX4 4 ∈ tbG := tb_1 (List.mem_of_getElem? (i := 209) rfl) rfl
theorem ly_X4_5 : u_lay RX4 TX4 5 ∈ tbG := tb_1 (List.mem_of_getElem? (i := 211) rfl) rfl
theorem ly_X4_6 : u_lay RX4 TX4 6 ∈ tbG := tb_1 (List.mem_of_getElem? (i := 213) rfl) rfl
theorem ly_X4_7 : u_lay RX4 TX4 7 ∈ tbG := tb_1 (List.mem_of_getElem? (i := 215) rfl) rfl
theorem ly_X4_8 : u_lay RX4 TX4 8 ∈ tbG := tb_1 (List.mem_of_getElem? (i := 217) rfl) rfl
theorem ly_X4_9 : u_lay RX4 TX4 9 ∈ tbG := tb_1 (List.mem_of_getElem? (i := 219) rfl) rfl
theorem ly_X4_10 : u_lay RX4 TX4 10 ∈ tbG := tb_1 (List.mem_of_getElem? (i := 221) rfl) rfl
theorem inl_X4 : ∀ w ∈ u_ws RX4 TX4 11, w ∈ tbG := by
  intro w hw
  obtain ⟨k, hk, rfl⟩ := List.mem_map.mp hw
  have hk := List.mem_range.mp hk
  match k, hk with
  | 0, _ => exact ly_X4_0
  | 1, _ => exact ly_X4_1
  | 2, _ => exact ly_X4_2
  | 3, _ => exact ly_X4_3
  | 4, _ => exact ly_X4_4
  | 5, _ => exact ly_X4_5
  | 6, _ => exact ly_X4_6
  | 7, _ => exact ly_X4_7
  | 8, _ => exact ly_X4_8
  | 9, _ => exact ly_X4_9
  | 10, _ => exact ly_X4_10
  | k + 11, h => exact absurd h (by omega)
theorem ly_X5_0 : u_lay RX5 TX5 0 ∈ tbG := tb_1 (List.mem_of_getElem? (i := 233) rfl) rfl
theorem ly_X5_1 : u_lay RX5 TX5 1 ∈ tbG := tb_1 (List.mem_of_getElem? (i := 235) rfl) rfl
theorem ly_X5_2 : u_lay RX5 TX5 2 ∈ tbG := tb_1 (List.mem_of_getElem? (i := 237) rfl) rfl
theorem inl_X5 : ∀ w ∈ u_ws RX5 TX5 3, w ∈ tbG := by
  intro w hw
  obtain ⟨k, hk, rfl⟩ := List.mem_map.mp hw
  have hk := List.mem_range.mp hk
  match k, hk with
  | 0, _ => exact ly_X5_0
  | 1, _ => exact ly_X5_1
  | 2, _ => exact ly_X5_2
  | k + 3, h => exact absurd h (by omega)
theorem ly_X6_0 : u_lay RX6 TX6 0 ∈ tbG := tb_1 (List.mem_of_getElem? (i := 101) rfl) rfl
theorem ly_X6_1 : u_lay RX6 TX6 1 ∈ tbG := tb_1 (List.mem_of_getElem? (i := 103) rfl) rfl
theorem ly_X6_2 : u_lay RX6 TX6 2 ∈ tbG := tb_1 (List.mem_of_getElem? (i := 105) rfl) rfl
theorem ly_X6_3 : u_lay RX6 TX6 3 ∈ tbG := tb_1 (List.mem_of_getElem? (i := 107) rfl) rfl
theorem ly_X6_4 : u_lay RX6 TX6 4 ∈ tbG := tb_1 (List.mem_of_getElem? (i := 109) rfl) rfl
theorem ly_X6_5 : u_lay RX6 TX6 5 ∈ tbG := tb_1 (List.mem_of_getElem? (i := 111) rfl) rfl
theorem ly_X6_6 : u_lay RX6 TX6 6 ∈ tbG := tb_1 (List.mem_of_getElem? (i := 113) rfl) rfl
theorem ly_X6_7 : u_lay RX6 TX6 7 ∈ tbG := tb_1 (List.mem_of_getElem? (i := 115) rfl) rfl
theorem ly_X6_8 : u_lay RX6 TX6 8 ∈ tbG := tb_1 (List.mem_of_getElem? (i := 117) rfl) rfl
theorem ly_X6_9 : u_lay RX6 TX6 9 ∈ tbG := tb_1 (List.mem_of_getElem? (i := 119) rfl) rfl
theorem inl_X6 : ∀ w ∈ u_ws RX6 TX6 10, w ∈ tbG := by
  intro w hw
  obtain ⟨k, hk, rfl⟩ := List.mem_map.mp hw
  have hk := List.mem_range.mp hk
  match k, hk with
  | 0, _ => exact ly_X6_0
  | 1, _ => exact ly_X6_1
  | 2, _ => exact ly_X6_2
  | 3, _ => exact ly_X6_3
  | 4, _ => exact ly_X6_4
  | 5, _ => exact ly_X6_5
  | 6, _ => exact ly_X6_6
  | 7, _ => exact ly_X6_7
  | 8, _ => exact ly_X6_8
  | 9, _ => exact ly_X6_9
  | k + 10, h => exact absurd h (by omega)
theorem ly_X7_0 : u_lay RX7 TX7 0 ∈ tbG := tb_2 (List.mem_of_getElem? (i := 73) rfl) rfl
theorem ly_X7_1 : u_lay RX7 TX7 1 ∈ tbG := tb_2 (List.mem_of_getElem? (i := 75) rfl) rfl
theorem ly_X7_2 : u_lay RX7 TX7 2 ∈ tbG := tb_2 (List.mem_of_getElem? (i := 77) rfl) rfl
theorem ly_X7_3 : u_lay RX7 TX7 3 ∈ tbG := tb_2 (List.mem_of_getElem? (i := 79) rfl) rfl
theorem ly_X7_4 : u_lay RX7 TX7 4 ∈ tbG := tb_2 (List.mem_of_getElem? (i := 81) rfl) rfl
theorem inl_X7 : ∀ w ∈ u_ws RX7 TX7 5, w ∈ tbG := by
  intro w hw
  obtain ⟨k, hk, rfl⟩ := List.mem_map.mp hw
  have hk := List.mem_range.mp hk
  match k, hk with
  | 0, _ => exact ly_X7_0
  | 1, _ => exact ly_X7_1
  | 2, _ => exact ly_X7_2
  | 3, _ => exact ly_X7_3
  | 4, _ => exact ly_X7_4
  | k + 5, h => exact absurd h (by omega)
theorem ly_X8_0 : u_lay RX8 TX8 0 ∈ tbG := tb_1 (List.mem_of_getElem? (i := 149) rfl) rfl
theorem ly_X8_1 : u_lay RX8 TX8 1 ∈ tbG := tb_1 (List.mem_of_getElem? (i := 151) rfl) rfl
theorem ly_X8_2 : u_lay RX8 TX8 2 ∈ tbG := tb_1 (List.mem_of_getElem? (i := 153) rfl) rfl
theorem ly_X8_3 : u_lay RX8 TX8 3 ∈ tbG := tb_1 (List.mem_of_getElem? (i := 155) rfl) rfl
theorem ly_X8_4 : u_lay RX8 TX8 4 ∈ tbG := tb_1 (List.mem_of_getElem? (i := 157) rfl) rfl
theorem inl_X8 : ∀ w ∈ u_ws RX8 TX8 5, w ∈ tbG := by
  intro w hw
  obtain ⟨k, hk, rfl⟩ := List.mem_map.mp hw
  have hk := List.mem_range.mp hk
  match k, hk with
  | 0, _ => exact ly_X8_0
  | 1, _ => exact ly_X8_1
  | 2, _ => exact ly_X8_2
  | 3, _ => exact ly_X8_3
  | 4, _ => exact ly_X8_4
  | k + 5, h => exact absurd h (by omega)
theorem ly_X9_0 : u_lay RX9 TX9 0 ∈ tbG := tb_2 (List.mem_of_getElem? (i := 23) rfl) rfl
theorem ly_X9_1 : u_lay RX9 TX9 1 ∈ tbG := tb_2 (List.mem_of_getElem? (i := 25) rfl) rfl
theorem ly_X9_2 : u_lay RX9 TX9 2 ∈ tbG := tb_2 (List.mem_of_getElem? (i := 27) rfl) rfl
theorem ly_X9_3 : u_lay RX9 TX9 3 ∈ tbG := tb_2 (List.mem_of_getElem? (i := 29) rfl) rfl
theorem ly_X9_4 : u_lay RX9 TX9 4 ∈ tbG := tb_2 (List.mem_of_getElem? (i := 31) rfl) rfl
theorem ly_X9_5 : u_lay RX9 TX9 5 ∈ tbG := tb_2 (List.mem_of_getElem? (i := 33) rfl) rfl
theorem ly_X9_6 : u_lay RX9 TX9 6 ∈ tbG := tb_2 (List.mem_of_getElem? (i := 35) rfl) rfl
theorem ly_X9_7 : u_lay RX9 TX9 7 ∈ tbG := tb_2 (List.mem_of_getElem? (i := 37) rfl) rfl
theorem ly_X9_8 : u_lay RX9 TX9 8 ∈ tbG := tb_2 (List.mem_of_getElem? (i := 39) rfl) rfl
theorem ly_X9_9 : u_lay RX9 TX9 9 ∈ tbG := tb_2 (List.mem_of_getElem? (i := 41) rfl) rfl
theorem ly_X9_10 : u_lay RX9 TX9 10 ∈ tbG := tb_2 (List.mem_of_getElem? (i := 43) rfl) rfl
theorem ly_X9_11 : u_lay RX9 TX9 11 ∈ tbG := tb_2 (List.mem_of_getElem? (i := 45) rfl) rfl
theorem ly_X9_12 : u_lay RX9 TX9 12 ∈ tbG := tb_2 (List.mem_of_getElem? (i := 47) rfl) rfl
theorem ly_X9_13 : u_lay RX9 TX9 13 ∈ tbG := tb_2 (List.mem_of_getElem? (i := 49) rfl) rfl
theorem ly_X9_14 : u_lay RX9 TX9 14 ∈ tbG := tb_2 (List.mem_of_getElem? (i := 51) rfl) rfl
theorem inl_X9 : ∀ w ∈ u_ws RX9 TX9 15, w ∈ tbG := by
  intro w hw
  obtain ⟨k, hk, rfl⟩ := List.mem_map.mp hw
  have hk := List.mem_range.mp hk
  match k, hk with
  | 0, _ => exact ly_X9_0
  | 1, _ => exact ly_X9_1
  | 2, _ => exact ly_X9_2
  | 3, _ => exact ly_X9_3
  | 4, _ => exact ly_X9_4
  | 5, _ => exact ly_X9_5
  | 6, _ => exact ly_X9_6
  | 7, _ => exact ly_X9_7
  | 8, _ => exact ly_X9_8
  | 9, _ => exact ly_X9_9
  | 10, _ => exact ly_X9_10
  | 11, _ => exact ly_X9_11
  | 12, _ => exact ly_X9_12
  | 13, _ => exact ly_X9_13
  | 14, _ => exact ly_X9_14
  | k + 15, h => exact absurd h (by omega)
theorem ly_X10_0 : u_lay RX10 TX10 0 ∈ tbG := tb_2 (List.mem_of_getElem? (i := 209) rfl) rfl
theorem ly_X10_1 : u_lay RX10 TX10 1 ∈ tbG := tb_2 (List.mem_of_getElem? (i := 211) rfl) rfl
theorem ly_X10_2 : u_lay RX10 TX10 2 ∈ tbG := tb_2 (List.mem_of_getElem? (i := 213) rfl) rfl
theorem ly_X10_3 : u_lay RX10 TX10 3 ∈ tbG := tb_2 (List.mem_of_getElem? (i := 215) rfl) rfl
theorem ly_X10_4 : u_lay RX10 TX10 4 ∈ tbG := tb_2 (List.mem_of_getElem? (i := 217) rfl) rfl
theorem ly_X10_5 : u_lay RX10 TX10 5 ∈ tbG := tb_2 (List.mem_of_getElem? (i := 219) rfl) rfl
theorem ly_X10_6 : u_lay RX10 TX10 6 ∈ tbG := tb_2 (List.mem_of_getElem? (i := 221) rfl) rfl
theorem ly_X10_7 : u_lay RX10 TX10 7 ∈ tbG := tb_2 (List.mem_of_getElem? (i := 223) rfl) rfl
theorem ly_X10_8 : u_lay RX10 TX10 8 ∈ tbG := tb_2 (List.mem_of_getElem? (i := 225) rfl) rfl
theorem ly_X10_9 : u_lay RX10 TX10 9 ∈ tbG := tb_2 (List.mem_of_getElem? (i := 227) rfl) rfl
theorem ly_X10_10 : u_lay RX10 TX10 10 ∈ tbG := tb_2 (List.mem_of_getElem? (i := 229) rfl) rfl
theorem ly_X10_11 : u_lay RX10 TX10 11 ∈ tbG := tb_2 (List.mem_of_getElem? (i := 231) rfl) rfl
theorem inl_X10 : ∀ w ∈ u_ws RX10 TX10 12, w ∈ tbG := by
  intro w hw
  obtain ⟨k, hk, rfl⟩ := List.mem_map.mp hw
  have hk := List.mem_range.mp hk
  match k, hk with
  | 0, _ => exact ly_X10_0
  | 1, _ => exact ly_X10_1
  | 2, _ => exact ly_X10_2
  | 3, _ => exact ly_X10_3
  | 4, _ => exact ly_X10_4
  | 5, _ => exact ly_X10_5
  | 6, _ => exact ly_X10_6
  | 7, _ => exact ly_X10_7
  | 8, _ => exact ly_X10_8
  | 9, _ => exact ly_X10_9
  | 10, _ => exact ly_X10_10
  | 11, _ => exact ly_X10_11
  | k + 12, h => exact absurd h (by omega)
theorem ly_X11_0 : u_lay RX11 TX11 0 ∈ tbG := tb_6 (List.mem_of_getElem? (i := 192) rfl) rfl
theorem ly_X11_1 : u_lay RX11 TX11 1 ∈ tbG := tb_6 (List.mem_of_getElem? (i := 194) rfl) rfl
theorem ly_X11_2 : u_lay RX11 TX11 2 ∈ tbG := tb_6 (List.mem_of_getElem? (i := 196) rfl) rfl
theorem ly_X11_3 : u_lay RX11 TX11 3 ∈ tbG := tb_6 (List.mem_of_getElem? (i := 198) rfl) rfl
theorem ly_X11_4 : u_lay RX11 TX11 4 ∈ tbG := tb_6 (List.mem_of_getElem? (i := 200) rfl) rfl
theorem ly_X11_5 : u_lay RX11 TX11 5 ∈ tbG := tb_6 (List.mem_of_getElem? (i := 202) rfl) rfl
theorem ly_X11_6 : u_lay RX11 TX11 6 ∈ tbG := tb_6 (List.mem_of_getElem? (i := 204) rfl) rfl
theorem ly_X11_7 : u_lay RX11 TX11 7 ∈ tbG := tb_6 (List.mem_of_getElem? (i := 206) rfl) rfl
theorem ly_X11_8 : u_lay RX11 TX11 8 ∈ tbG := tb_6 (List.mem_of_getElem? (i := 208) rfl) rfl
theorem ly_X11_9 : u_lay RX11 TX11 9 ∈ tbG := tb_6 (List.mem_of_getElem? (i := 210) rfl) rfl
theorem ly_X11_10 : u_lay RX11 TX11 10 ∈ tbG := tb_6 (List.mem_of_getElem? (i := 212) rfl) rfl
theorem ly_X11_11 : u_lay RX11 TX11 11 ∈ tbG := tb_6 (List.mem_of_getElem? (i := 214) rfl) rfl
theorem ly_X11_12 : u_lay RX11 TX11 12 ∈ tbG := tb_6 (List.mem_of_getElem? (i := 216) rfl) rfl
theorem ly_X11_13 : u_lay RX11 TX11 13 ∈ tbG := tb_6 (List.mem_of_getElem? (i := 218) rfl) rfl
theorem ly_X11_14 : u_lay RX11 TX11 14 ∈ tbG := tb_6 (List.mem_of_getElem? (i := 220) rfl) rfl
theorem ly_X11_15 : u_lay RX11 TX11 15 ∈ tbG := tb_6 (List.mem_of_getElem? (i := 222) rfl) rfl
theorem ly_X11_16 : u_lay RX11 TX11 16 ∈ tbG := tb_6 (List.mem_of_getElem? (i := 224) rfl) rfl
theorem ly_X11_17 : u_lay RX11 TX11 17 ∈ tbG := tb_6 (List.mem_of_getElem? (i := 226) rfl) rfl
theorem ly_X11_18 : u_lay RX11 TX11 18 ∈ tbG := tb_6 (List.mem_of_getElem? (i := 228) rfl) rfl
theorem ly_X11_19 : u_lay RX11 TX11 19 ∈ tbG := tb_6 (List.mem_of_getElem? (i := 230) rfl) rfl
theorem ly_X11_20 : u_lay RX11 TX11 20 ∈ tbG := tb_6 (List.mem_of_getElem? (i := 232) rfl) rfl
theorem ly_X11_21 : u_lay RX11 TX11 21 ∈ tbG := tb_6 (List.mem_of_getElem? (i := 234) rfl) rfl
theorem ly_X11_22 : u_lay RX11 TX11 22 ∈ tbG := tb_6 (List.mem_of_getElem? (i := 236) rfl) rfl
theorem ly_X11_23 : u_lay RX11 TX11 23 ∈ tbG := tb_6 (List.mem_of_getElem? (i := 238) rfl) rfl
theorem ly_X11_24 : u_lay RX11 TX11 24 ∈ tbG := tb_7 (List.mem_of_getElem? (i := 0) rfl) rfl
theorem ly_X11_25 : u_lay RX11 TX11 25 ∈ tbG := tb_7 (List.mem_of_getElem? (i := 2) rfl) rfl
theorem ly_X11_26 : u_lay RX11 TX11 26 ∈ tbG := tb_7 (List.mem_of_getElem? (i := 4) rfl) rfl
theorem ly_X11_27 : u_lay RX11 TX11 27 ∈ tbG := tb_7 (List.mem_of_getElem? (i := 6) rfl) rfl
theorem ly_X11_28 : u_lay RX11 TX11 28 ∈ tbG := tb_7 (List.mem_of_getElem? (i := 8) rfl) rfl
theorem ly_X11_29 : u_lay RX11 TX11 29 ∈ tbG := tb_7 (List.mem_of_getElem? (i := 10) rfl) rfl
theorem ly_X11_30 : u_lay RX11 TX11 30 ∈ tbG := tb_7 (List.mem_of_getElem? (i := 12) rfl) rfl
theorem ly_X11_31 : u_lay RX11 TX11 31 ∈ tbG := tb_7 (List.mem_of_getElem? (i := 14) rfl) rfl
theorem ly_X11_32 : u_lay RX11 TX11 32 ∈ tbG := tb_7 (List.mem_of_getElem? (i := 16) rfl) rfl
theorem ly_X11_33 : u_lay RX11 TX11 33 ∈ tbG := tb_7 (List.mem_of_getElem? (i := 18) rfl) rfl
theorem ly_X11_34 : u_lay RX11 TX11 34 ∈ tbG := tb_7 (List.mem_of_getElem? (i := 20) rfl) rfl
theorem ly_X11_35 : u_lay RX11 TX11 35 ∈ tbG := tb_7 (List.mem_of_getElem? (i := 22) rfl) rfl
theorem ly_X11_36 : u_lay RX11 TX11 36 ∈ tbG := tb_7 (List.mem_of_getElem? (i := 24) rfl) rfl
theorem ly_X11_37 : u_lay RX11 TX11 37 ∈ tbG := tb_7 (List.mem_of_getElem? (i := 26) rfl) rfl
theorem ly_X11_38 : u_lay RX11 TX11 38 ∈ tbG := tb_7 (List.mem_of_getElem? (i := 28) rfl) rfl
theorem ly_X11_39 : u_lay RX11 TX11 39 ∈ tbG := tb_7 (List.mem_of_getElem? (i := 30) rfl) rfl
theorem ly_X11_40 : u_lay RX11 TX11 40 ∈ tbG := tb_7 (List.mem_of_getElem? (i := 32) rfl) rfl
theorem ly_X11_41 : u_lay RX11 TX11 41 ∈ tbG := tb_7 (List.mem_of_getElem? (i := 34) rfl) rfl
theorem ly_X11_42 : u_lay RX11 TX11 42 ∈ tbG := tb_7 (List.mem_of_getElem? (i := 36) rfl) rfl
theorem ly_X11_43 : u_lay RX11 TX11 43 ∈ tbG := tb_7 (List.mem_of_getElem? (i := 38) rfl) rfl
theorem ly_X11_44 : u_lay RX11 TX11 44 ∈ tbG := tb_7 (List.mem_of_getElem? (i := 40) rfl) rfl
theorem ly_X11_45 : u_lay RX11 TX11 45 ∈ tbG := tb_7 (List.mem_of_getElem? (i := 42) rfl) rfl
theorem ly_X11_46 : u_lay RX11 TX11 46 ∈ tbG := tb_7 (List.mem_of_getElem? (i := 44) rfl) rfl
theorem ly_X11_47 : u_lay RX11 TX11 47 ∈ tbG := tb_7 (List.mem_of_getElem? (i := 46) rfl) rfl
theorem ly_X11_48 : u_lay RX11 TX11 48 ∈ tbG := tb_7 (List.mem_of_getElem? (i := 48) rfl) rfl
theorem ly_X11_49 : u_lay RX11 TX11 49 ∈ tbG := tb_7 (List.mem_of_getElem? (i := 50) rfl) rfl
theorem ly_X11_50 : u_lay RX11 TX11 50 ∈ tbG := tb_7 (List.mem_of_getElem? (i := 52) rfl) rfl
theorem ly_X11_51 : u_lay RX11 TX11 51 ∈ tbG := tb_7 (List.mem_of_getElem? (i := 54) rfl) rfl
theorem ly_X11_52 : u_lay RX11 TX11 52 ∈ tbG := tb_7 (List.mem_of_getElem? (i := 56) rfl) rfl
theorem ly_X11_53 : u_lay RX11 TX11 53 ∈ tbG := tb_7 (List.mem_of_getElem? (i := 58) rfl) rfl
theorem ly_X11_54 : u_lay RX11 TX11 54 ∈ tbG := tb_7 (List.mem_of_getElem? (i := 60) rfl) rfl
theorem ly_X11_55 : u_lay RX11 TX11 55 ∈ tbG := tb_7 (List.mem_of_getElem? (i := 62) rfl) rfl
theorem ly_X11_56 : u_lay RX11 TX11 56 ∈ tbG := tb_7 (List.mem_of_getElem? (i := 64) rfl) rfl
theorem ly_X11_57 : u_lay RX11 TX11 57 ∈ tbG := tb_7 (List.mem_of_getElem? (i := 66) rfl) rfl
theorem ly_X11_58 : u_lay RX11 TX11 58 ∈ tbG := tb_7 (List.mem_of_getElem? (i := 68) rfl) rfl
theorem ly_X11_59 : u_lay RX11 TX11 59 ∈ tbG := tb_7 (List.mem_of_getElem? (i := 70) rfl) rfl
theorem ly_X11_60 : u_lay RX11 TX11 60 ∈ tbG := tb_7 (List.mem_of_getElem? (i := 72) rfl) rfl
theorem ly_X11_61 : u_lay RX11 TX11 61 ∈ tbG := tb_7 (List.mem_of_getElem? (i := 74) rfl) rfl
theorem ly_X11_62 : u_lay RX11 TX11 62 ∈ tbG := tb_7 (List.mem_of_getElem? (i := 76) rfl) rfl
theorem ly_X11_63 : u_lay RX11 TX11 63 ∈ tbG := tb_7 (List.mem_of_getElem? (i := 78) rfl) rfl
theorem ly_X11_64 : u_lay RX11 TX11 64 ∈ tbG := tb_7 (List.mem_of_getElem? (i := 80) rfl) rfl
theorem ly_X11_65 : u_lay RX11 TX11 65 ∈ tbG := tb_7 (List.mem_of_getElem? (i := 82) rfl) rfl
theorem ly_X11_66 : u_lay RX11 TX11 66 ∈ tbG := tb_7 (List.mem_of_getElem? (i := 84) rfl) rfl
theorem ly_X11_67 : u_lay RX11 TX11 67 ∈ tbG := tb_7 (List.mem_of_getElem? (i := 86) rfl) rfl
theorem ly_X11_68 : u_lay RX11 TX11 68 ∈ tbG := tb_7 (List.mem_of_getElem? (i := 88) rfl) rfl
theorem ly_X11_69 : u_lay RX11 TX11 69 ∈ tbG := tb_7 (List.mem_of_getElem? (i := 90) rfl) rfl
theorem ly_X11_70 : u_lay RX11 TX11 70 ∈ tbG := tb_7 (List.mem_of_getElem? (i := 92) rfl) rfl
theorem ly_X11_71 : u_lay RX11 TX11 71 ∈ tbG := tb_7 (List.mem_of_getElem? (i := 94) rfl) rfl
theorem ly_X11_72 : u_lay RX11 TX11 72 ∈ tbG := tb_7 (List.mem_of_getElem? (i := 96) rfl) rfl
theorem inl_X11 : ∀ w ∈ u_ws RX11 TX11 73, w ∈ tbG := by
  intro w hw
  obtain ⟨k, hk, rfl⟩ := List.mem_map.mp hw
  have hk := List.mem_range.mp hk
  match k, hk with
  | 0, _ => exact ly_X11_0
  | 1, _ => exact ly_X11_1
  | 2, _ => exact ly_X11_2
  | 3, _ => exact ly_X11_3
  | 4, _ => exact ly_X11_4
  | 5, _ => exact ly_X11_5
  | 6, _ => exact ly_X11_6
  | 7, _ => exact ly_X11_7
  | 8, _ => exact ly_X11_8
  | 9, _ => exact ly_X11_9
  | 10, _ => exact ly_X11_10
  | 11, _ => exact ly_X11_11
  | 12, _ => exact ly_X11_12
  | 13, _ => exact ly_X11_13
  | 14, _ => exact ly_X11_14
  | 15, _ => exact ly_X11_15
  | 16, _ => exact ly_X11_16
  | 17, _ => exact ly_X11_17
  | 18, _ => exact ly_X11_18
  | 19, _ => exact ly_X11_19
  | 20, _ => exact ly_X11_20
  | 21, _ => exact ly_X11_21
  | 22, _ => exact ly_X11_22
  | 23, _ => exact ly_X11_23
  | 24, _ => exact ly_X11_24
  | 25, _ => exact ly_X11_25
  | 26, _ => exact ly_X11_26
  | 27, _ => exact ly_X11_27
  | 28, _ => exact ly_X11_28
  | 29, _ => exact ly_X11_29
  | 30, _ => exact ly_X11_30
  | 31, _ => exact ly_X11_31
  | 32, _ => exact ly_X11_32
  | 33, _ => exact ly_X11_33
  | 34, _ => exact ly_X11_34
  | 35, _ => exact ly_X11_35
  | 36, _ => exact ly_X11_36
  | 37, _ => exact ly_X11_37
  | 38, _ => exact ly_X11_38
  | 39, _ => exact ly_X11_39
  | 40, _ => exact ly_X11_40
  | 41, _ => exact ly_X11_41
  | 42, _ => exact ly_X11_42
  | 43, _ => exact ly_X11_43
  | 44, _ => exact ly_X11_44
  | 45, _ => exact ly_X11_45
  | 46, _ => exact ly_X11_46
  | 47, _ => exact ly_X11_47
  | 48, _ => exact ly_X11_48
  | 49, _ => exact ly_X11_49
  | 50, _ => exact ly_X11_50
  | 51, _ => exact ly_X11_51
  | 52, _ => exact ly_X11_52
  | 53, _ => exact ly_X11_53
  | 54, _ => exact ly_X11_54
  | 55, _ => exact ly_X11_55
  | 56, _ => exact ly_X11_56
  | 57, _ => exact ly_X11_57
  | 58, _ => exact ly_X11_58
  | 59, _ => exact ly_X11_59
  | 60, _ => exact ly_X11_60
  | 61, _ => exact ly_X11_61
  | 62, _ => exact ly_X11_62
  | 63, _ => exact ly_X11_63
  | 64, _ => exact ly_X11_64
  | 65, _ => exact ly_X11_65
  | 66, _ => exact ly_X11_66
  | 67, _ => exact ly_X11_67
  | 68, _ => exact ly_X11_68
  | 69, _ => exact ly_X11_69
  | 70, _ => exact ly_X11_70
  | 71, _ => exact ly_X11_71
  | 72, _ => exact ly_X11_72
  | k + 73, h => exact absurd h (by omega)
