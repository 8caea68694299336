set_option maxRecDepth 100000 in
set_option maxHeartbeats 4000000 in
theorem w_X6_skip_e {α : Nat → Nat} {D : va_G} {cA : Nat → ClassId} {z : Cz} (C : CX shX α D cA z RX6 cX6_skip 1 none 0 0) (σ : St) : RX emV shX α D cA z 1 σ 0 [(0, .ref (α 3))] [] (f_X6_skip σ) := by
  unfold f_X6_skip
  refine rx_aload_n C 0 dX6_skip_0 rfl rfl ?_
  refine rx_iconst C dX6_skip_1 ic_0 ?_
  refine rx_putI C (k := 7) sx_3 fc_X6 (by decide) rfl lk_X6_51 rfl ⟨rfl, rfl⟩ dX6_skip_2 ?_
  refine rx_lts (fun σ2 => ?_)
  exact rx_vret C dX6_skip_5
theorem m_X6_skip (l : Launch) {α : Nat → Nat} {D : va_G} {cA : Nat → ClassId} (hin : inj shX.length α) (σ : St) : CT shX l yX6_skip cX6_skip 1 none 0 0 emV α D cA [.ref (α 3)] σ (f_X6_skip σ) := ct_of rfl (Nat.le_of_ble_eq_true rfl) hin (fun z _ C => w_X6_skip_e C σ)
set_option maxRecDepth 100000 in
set_option maxHeartbeats 4000000 in
theorem w_X5_number_44 {α : Nat → Nat} {D : va_G} {cA : Nat → ClassId} {z : Cz} (C : CX shX α D cA z RX5 cX5_number 3 (some .boolean) 2 44) (σ : St) : RX emI shX α D cA z 3 σ 44 [(0, .ref (α 5))] [] (f_X5_number_44 σ) := by
  unfold f_X5_number_44
  refine rx_aload_n C 0 dX5_number_44 rfl rfl ?_
  refine rx_getC C (k := 0) sx_5 fc_X5 (by decide) 3 rfl lk_X5_9 dX5_number_45 ?_
  refine rx_iconst C dX5_number_48 ic_4 ?_
  refine rx_callVi C [.int (4 : Int32)] [] (m_X6_failHere z.l C.inj (4 : Int32) σ) mv_X6_failHere lk_X5_62 sx_3 rfl rfl rfl (Nat.le_of_ble_eq_true rfl) ⟨Nat.le_of_ble_eq_true rfl, Nat.le_of_ble_eq_true rfl⟩ dX5_number_49 (fun q7 => ?_)
  exact rx_zret C dX5_number_52
set_option maxRecDepth 100000 in
set_option maxHeartbeats 4000000 in
theorem w_X5_number_e {α : Nat → Nat} {D : va_G} {cA : Nat → ClassId} {z : Cz} (C : CX shX α D cA z RX5 cX5_number 3 (some .boolean) 2 44) (x1 : Int32) (x2 : Int32) (σ : St) : RX emI shX α D cA z 3 σ 0 [(0, .ref (α 5)), (1, .int x1), (2, .int x2)] [] (f_X5_number x1 x2 σ) := by
  unfold f_X5_number
  refine rx_aload_n C 0 dX5_number_0 rfl rfl ?_
  refine rx_getC C (k := 0) sx_5 fc_X5 (by decide) 3 rfl lk_X5_9 dX5_number_1 ?_
  refine rx_callVi C [] [] (m_X6_look z.l C.inj σ) mv_X6_look lk_X5_28 sx_3 rfl rfl rfl (Nat.le_of_ble_eq_true rfl) ⟨Nat.le_of_ble_eq_true rfl, Nat.le_of_ble_eq_true rfl⟩ dX5_number_4 (fun q6 => ?_)
  refine rx_sipush C dX5_number_7 sp_301 ?_
  refine rx_icmp_eq C (tgt := 22) dX5_number_10 (by decide) (fun _ => ?_) (fun _ => ?_)
  · refine rx_aload_n C 0 dX5_number_22 rfl rfl ?_
    refine rx_getC C (k := 0) sx_5 fc_X5 (by decide) 3 rfl lk_X5_9 dX5_number_23 ?_
    refine rx_getI C (k := 6) sx_3 fc_X6 (by decide) rfl lk_X5_116 dX5_number_26 ?_
    refine rx_iload_n C 1 dX5_number_29 rfl rfl ?_
    refine rx_icmp_lt C (tgt := 44) dX5_number_30 (by decide) (fun _ => ?_) (fun _ => ?_)
    · exact RX.loc (w_X5_number_44 C q6.2) [0] rfl
    · refine rx_aload_n C 0 dX5_number_33 rfl rfl ?_
      refine rx_getC C (k := 0) sx_5 fc_X5 (by decide) 3 rfl lk_X5_9 dX5_number_34 ?_
      refine rx_getI C (k := 6) sx_3 fc_X6 (by decide) rfl lk_X5_116 dX5_number_37 ?_
      refine rx_iload_n C 2 dX5_number_40 rfl rfl ?_
      refine rx_icmp_le C (tgt := 53) dX5_number_41 (by decide) (fun _ => ?_) (fun _ => ?_)
      · refine rx_aload_n C 0 dX5_number_53 rfl rfl ?_
        refine rx_aload_n C 0 dX5_number_54 rfl rfl ?_
        refine rx_getC C (k := 0) sx_5 fc_X5 (by decide) 3 rfl lk_X5_9 dX5_number_55 ?_
        refine rx_getI C (k := 6) sx_3 fc_X6 (by decide) rfl lk_X5_116 dX5_number_58 ?_
        refine rx_putI C (k := 2) sx_5 fc_X5 (by decide) rfl lk_X5_19 rfl ⟨rfl, rfl⟩ dX5_number_61 ?_
        refine rx_lts (fun σ8 => ?_)
        refine rx_aload_n C 0 dX5_number_64 rfl rfl ?_
        refine rx_getC C (k := 0) sx_5 fc_X5 (by decide) 3 rfl lk_X5_9 dX5_number_65 ?_
        refine rx_callVv C [] [] (m_X6_skip z.l C.inj σ8) mv_X6_skip lk_X5_72 sx_3 rfl rfl rfl (Nat.le_of_ble_eq_true rfl) ⟨Nat.le_of_ble_eq_true rfl, Nat.le_of_ble_eq_true rfl⟩ dX5_number_68 (fun q9 => ?_)
        refine rx_iconst C dX5_number_71 ic_1 ?_
        exact rx_zretC C dX5_number_72 rfl
      · exact RX.loc (w_X5_number_44 C q6.2) [0] rfl
  · refine rx_aload_n C 0 dX5_number_13 rfl rfl ?_
    refine rx_getC C (k := 0) sx_5 fc_X5 (by decide) 3 rfl lk_X5_9 dX5_number_14 ?_
    refine rx_iconst C dX5_number_17 ic_1 ?_
    refine rx_callVi C [.int (1 : Int32)] [] (m_X6_failHere z.l C.inj (1 : Int32) q6.2) mv_X6_failHere lk_X5_62 sx_3 rfl rfl rfl (Nat.le_of_ble_eq_true rfl) ⟨Nat.le_of_ble_eq_true rfl, Nat.le_of_ble_eq_true rfl⟩ dX5_number_18 (fun q10 => ?_)
    exact rx_zret C dX5_number_21
theorem m_X5_number (l : Launch) {α : Nat → Nat} {D : va_G} {cA : Nat → ClassId} (hin : inj shX.length α) (x1 : Int32) (x2 : Int32) (σ : St) : CT shX l yX5_number cX5_number 3 (some .boolean) 2 44 emI α D cA [.ref (α 5), .int x1, .int x2] σ (f_X5_number x1 x2 σ) := ct_of rfl (Nat.le_of_ble_eq_true rfl) hin (fun z _ C => w_X5_number_e C x1 x2 σ)
set_option maxRecDepth 100000 in
set_option maxHeartbeats 4000000 in
theorem w_X5_oneLetter_58 {α : Nat → Nat} {D : va_G} {cA : Nat → ClassId} {z : Cz} (C : CX shX α D cA z RX5 cX5_oneLetter 2 (some .boolean) 2 44) (σ : St) : RX emI shX α D cA z 2 σ 58 [(0, .ref (α 5))] [] (f_X5_oneLetter_58 σ) := by
  unfold f_X5_oneLetter_58
  refine rx_aload_n C 0 dX5_oneLetter_58 rfl rfl ?_
  refine rx_getC C (k := 0) sx_5 fc_X5 (by decide) 3 rfl lk_X5_9 dX5_oneLetter_59 ?_
  refine rx_iconst C dX5_oneLetter_62 ic_1 ?_
  refine rx_callVi C [.int (1 : Int32)] [] (m_X6_failHere z.l C.inj (1 : Int32) σ) mv_X6_failHere lk_X5_62 sx_3 rfl rfl rfl (Nat.le_of_ble_eq_true rfl) ⟨Nat.le_of_ble_eq_true rfl, Nat.le_of_ble_eq_true rfl⟩ dX5_oneLetter_63 (fun q11 => ?_)
  exact rx_zret C dX5_oneLetter_66
set_option maxRecDepth 100000 in
set_option maxHeartbeats 4000000 in
theorem w_X5_oneLetter_e {α : Nat → Nat} {D : va_G} {cA : Nat → ClassId} {z : Cz} (C : CX shX α D cA z RX5 cX5_oneLetter 2 (some .boolean) 2 44) (σ : St) : RX emI shX α D cA z 2 σ 0 [(0, .ref (α 5))] [] (f_X5_oneLetter σ) := by
  unfold f_X5_oneLetter
  refine rx_aload_n C 0 dX5_oneLetter_0 rfl rfl ?_
  refine rx_getC C (k := 0) sx_5 fc_X5 (by decide) 3 rfl lk_X5_9 dX5_oneLetter_1 ?_
  refine rx_callVi C [] [] (m_X6_look z.l C.inj σ) mv_X6_look lk_X5_28 sx_3 rfl rfl rfl (Nat.le_of_ble_eq_true rfl) ⟨Nat.le_of_ble_eq_true rfl, Nat.le_of_ble_eq_true rfl⟩ dX5_oneLetter_4 (fun q8 => ?_)
  refine rx_sipush C dX5_oneLetter_7 sp_300 ?_
  refine rx_icmp_eq C (tgt := 22) dX5_oneLetter_10 (by decide) (fun _ => ?_) (fun _ => ?_)
  · refine rx_aload_n C 0 dX5_oneLetter_22 rfl rfl ?_
    refine rx_getC C (k := 0) sx_5 fc_X5 (by decide) 3 rfl lk_X5_9 dX5_oneLetter_23 ?_
    refine rx_getI C (k := 6) sx_3 fc_X6 (by decide) rfl lk_X5_116 dX5_oneLetter_26 ?_
    refine rx_iconst C dX5_oneLetter_29 ic_0 ?_
    refine rx_callSi C [.int (gI q8.2 3 6), .int (0 : Int32)] [] (m_X8_letterOf z.l C.inj (gI q8.2 3 6) (0 : Int32) q8.2) ms_X8_letterOf lk_X5_160 rfl rfl (Nat.le_of_ble_eq_true rfl) ⟨Nat.le_of_ble_eq_true rfl, Nat.le_of_ble_eq_true rfl⟩ dX5_oneLetter_30 (fun q9 => ?_)
    refine rx_istore_n C [(1, .int q9.1), (0, .ref (α 5))] dX5_oneLetter_33 rfl (by decide) rfl ?_
    refine rx_aload_n C 1 dX5_oneLetter_34 rfl rfl ?_
    refine rx_getC C (k := 0) sx_5 fc_X5 (by decide) 3 rfl lk_X5_9 dX5_oneLetter_35 ?_
    refine rx_getI C (k := 6) sx_3 fc_X6 (by decide) rfl lk_X5_116 dX5_oneLetter_38 ?_
    refine rx_callSi C [.int (gI q9.2 3 6)] [] (m_X8_lengthOf z.l C.inj (gI q9.2 3 6) q9.2) ms_X8_lengthOf lk_X5_163 rfl rfl (Nat.le_of_ble_eq_true rfl) ⟨Nat.le_of_ble_eq_true rfl, Nat.le_of_ble_eq_true rfl⟩ dX5_oneLetter_41 (fun q10 => ?_)
    refine rx_iconst C dX5_oneLetter_44 ic_1 ?_
    refine rx_icmp_ne C (tgt := 58) dX5_oneLetter_45 (by decide) (fun _ => ?_) (fun _ => ?_)
    · refine rx_iload_n C 0 dX5_oneLetter_48 rfl rfl ?_
      refine rx_if_lt C (tgt := 58) dX5_oneLetter_49 (by decide) (fun _ => ?_) (fun _ => ?_)
      · exact RX.loc (w_X5_oneLetter_58 C q10.2) [1] rfl
      · refine rx_iload_n C 0 dX5_oneLetter_52 rfl rfl ?_
        refine rx_bipush C dX5_oneLetter_53 bp_26 ?_
        refine rx_icmp_lt C (tgt := 67) dX5_oneLetter_55 (by decide) (fun _ => ?_) (fun _ => ?_)
        · refine rx_aload_n C 1 dX5_oneLetter_67 rfl rfl ?_
          refine rx_iload_n C 0 dX5_oneLetter_68 rfl rfl ?_
          refine rx_putI C (k := 2) sx_5 fc_X5 (by decide) rfl lk_X5_19 rfl ⟨rfl, rfl⟩ dX5_oneLetter_69 ?_
          refine rx_lts (fun σ12 => ?_)
          refine rx_aload_n C 1 dX5_oneLetter_72 rfl rfl ?_
          refine rx_getC C (k := 0) sx_5 fc_X5 (by decide) 3 rfl lk_X5_9 dX5_oneLetter_73 ?_
          refine rx_callVv C [] [] (m_X6_skip z.l C.inj σ12) mv_X6_skip lk_X5_72 sx_3 rfl rfl rfl (Nat.le_of_ble_eq_true rfl) ⟨Nat.le_of_ble_eq_true rfl, Nat.le_of_ble_eq_true rfl⟩ dX5_oneLetter_76 (fun q13 => ?_)
          refine rx_iconst C dX5_oneLetter_79 ic_1 ?_
          exact rx_zretC C dX5_oneLetter_80 rfl
        · exact RX.loc (w_X5_oneLetter_58 C q10.2) [1] rfl
    · exact RX.loc (w_X5_oneLetter_58 C q10.2) [1] rfl
  · refine rx_aload_n C 0 dX5_oneLetter_13 rfl rfl ?_
    refine rx_getC C (k := 0) sx_5 fc_X5 (by decide) 3 rfl lk_X5_9 dX5_oneLetter_14 ?_
    refine rx_iconst C dX5_oneLetter_17 ic_1 ?_
    refine rx_callVi C [.int (1 : Int32)] [] (m_X6_failHere z.l C.inj (1 : Int32) q8.2) mv_X6_failHere lk_X5_62 sx_3 rfl rfl rfl (Nat.le_of_ble_eq_true rfl) ⟨Nat.le_of_ble_eq_true rfl, Nat.le_of_ble_eq_true rfl⟩ dX5_oneLetter_18 (fun q14 => ?_)
    exact rx_zret C dX5_oneLetter_21
theorem m_X5_oneLetter (l : Launch) {α : Nat → Nat} {D : va_G} {cA : Nat → ClassId} (hin : inj shX.length α) (σ : St) : CT shX l yX5_oneLetter cX5_oneLetter 2 (some .boolean) 2 44 emI α D cA [.ref (α 5)] σ (f_X5_oneLetter σ) := ct_of rfl (Nat.le_of_ble_eq_true rfl) hin (fun z _ C => w_X5_oneLetter_e C σ)
set_option maxRecDepth 100000 in
set_option maxHeartbeats 4000000 in
theorem w_X5_heapLetters_e {α : Nat → Nat} {D : va_G} {cA : Nat → ClassId} {z : Cz} (C : CX shX α D cA z RX5 cX5_heapLetters 2 (some .boolean) 3 66) (σ : St) : RX emI shX α D cA z 2 σ 0 [(0, .ref (α 5))] [] (f_X5_heapLetters σ) := by
  unfold f_X5_heapLetters
  refine rx_aload_n C 0 dX5_heapLetters_0 rfl rfl ?_
  refine rx_getC C (k := 0) sx_5 fc_X5 (by decide) 3 rfl lk_X5_9 dX5_heapLetters_1 ?_
  refine rx_callVv C [] [] (m_X6_skip z.l C.inj σ) mv_X6_skip lk_X5_72 sx_3 rfl rfl rfl (Nat.le_of_ble_eq_true rfl) ⟨Nat.le_of_ble_eq_true rfl, Nat.le_of_ble_eq_true rfl⟩ dX5_heapLetters_4 (fun q7 => ?_)
  refine rx_aload_n C 0 dX5_heapLetters_7 rfl rfl ?_
  refine rx_callVi C [] [] (m_X5_oneLetter z.l C.inj q7.2) mv_X5_oneLetter lk_X5_75 sx_5 rfl rfl rfl (Nat.le_of_ble_eq_true rfl) ⟨Nat.le_of_ble_eq_true rfl, Nat.le_of_ble_eq_true rfl⟩ dX5_heapLetters_8 (fun q8 => ?_)
  refine rx_if_ne C (tgt := 16) dX5_heapLetters_11 (by decide) (fun _ => ?_) (fun _ => ?_)
  · refine rx_iconst C dX5_heapLetters_14 ic_0 ?_
    exact rx_zretC C dX5_heapLetters_15 rfl
  · refine rx_aload_n C 0 dX5_heapLetters_16 rfl rfl ?_
    refine rx_getI C (k := 2) sx_5 fc_X5 (by decide) rfl lk_X5_19 dX5_heapLetters_17 ?_
    refine rx_lti (fun w9 => ?_)
    refine rx_istore_n C [(1, .int w9), (0, .ref (α 5))] dX5_heapLetters_20 rfl (by decide) rfl ?_
    refine rx_aload_n C 1 dX5_heapLetters_21 rfl rfl ?_
    refine rx_iconst C dX5_heapLetters_22 ic_0 ?_
    refine rx_bipush C dX5_heapLetters_23 bp_99 ?_
    refine rx_callVi C [.int (0 : Int32), .int (99 : Int32)] [] (m_X5_number z.l C.inj (0 : Int32) (99 : Int32) q8.2) mv_X5_number lk_X5_78 sx_5 rfl rfl rfl (Nat.le_of_ble_eq_true rfl) ⟨Nat.le_of_ble_eq_true rfl, Nat.le_of_ble_eq_true rfl⟩ dX5_heapLetters_25 (fun q10 => ?_)
    refine rx_if_ne C (tgt := 33) dX5_heapLetters_28 (by decide) (fun _ => ?_) (fun _ => ?_)
    · refine rx_iconst C dX5_heapLetters_31 ic_0 ?_
      exact rx_zretC C dX5_heapLetters_32 rfl
    · refine rx_aload_n C 1 dX5_heapLetters_33 rfl rfl ?_
      refine rx_getR C (k := 1) sx_5 fc_X5 (by decide) rfl lk_X5_15 dX5_heapLetters_34 ?_
      refine rx_ltr (fun g11 => ?_)
      refine rx_if (fun hg11 => ?_) (fun _ => rx_none)
      refine rx_getC C (k := 6) (ld_sh (landB_is hg11)) fc_X4 (by decide) (g11 + 17) rfl lk_X5_86 dX5_heapLetters_37 ?_
      refine rx_iload_n C 0 dX5_heapLetters_40 rfl rfl ?_
      refine rx_aload_n C 1 dX5_heapLetters_41 rfl rfl ?_
      refine rx_getI C (k := 2) sx_5 fc_X5 (by decide) rfl lk_X5_19 dX5_heapLetters_42 ?_
      refine rx_iast C (n := 26) (ldl_17 (landB_is hg11)) dX5_heapLetters_45 (fun _ => ?_)
      refine rx_lts (fun σ12 => ?_)
      refine rx_iconst C dX5_heapLetters_46 ic_1 ?_
      exact rx_zretC C dX5_heapLetters_47 rfl
theorem m_X5_heapLetters (l : Launch) {α : Nat → Nat} {D : va_G} {cA : Nat → ClassId} (hin : inj shX.length α) (σ : St) : CT shX l yX5_heapLetters cX5_heapLetters 2 (some .boolean) 3 66 emI α D cA [.ref (α 5)] σ (f_X5_heapLetters σ) := ct_of rfl (Nat.le_of_ble_eq_true rfl) hin (fun z _ C => w_X5_heapLetters_e C σ)
set_option maxRecDepth 100000 in
set_option maxHeartbeats 4000000 in
theorem w_X5_letterOunces_e {α : Nat → Nat} {D : va_G} {cA : Nat → ClassId} {z : Cz} (C : CX shX α D cA z RX5 cX5_letterOunces 2 (some .boolean) 3 66) (σ : St) : RX emI shX α D cA z 2 σ 0 [(0, .ref (α 5))] [] (f_X5_letterOunces σ) := by
  unfold f_X5_letterOunces
  refine rx_aload_n C 0 dX5_letterOunces_0 rfl rfl ?_
  refine rx_getC C (k := 0) sx_5 fc_X5 (by decide) 3 rfl lk_X5_9 dX5_letterOunces_1 ?_
  refine rx_callVv C [] [] (m_X6_skip z.l C.inj σ) mv_X6_skip lk_X5_72 sx_3 rfl rfl rfl (Nat.le_of_ble_eq_true rfl) ⟨Nat.le_of_ble_eq_true rfl, Nat.le_of_ble_eq_true rfl⟩ dX5_letterOunces_4 (fun q7 => ?_)
  refine rx_aload_n C 0 dX5_letterOunces_7 rfl rfl ?_
  refine rx_callVi C [] [] (m_X5_oneLetter z.l C.inj q7.2) mv_X5_oneLetter lk_X5_75 sx_5 rfl rfl rfl (Nat.le_of_ble_eq_true rfl) ⟨Nat.le_of_ble_eq_true rfl, Nat.le_of_ble_eq_true rfl⟩ dX5_letterOunces_8 (fun q8 => ?_)
  refine rx_if_ne C (tgt := 16) dX5_letterOunces_11 (by decide) (fun _ => ?_) (fun _ => ?_)
  · refine rx_iconst C dX5_letterOunces_14 ic_0 ?_
    exact rx_zretC C dX5_letterOunces_15 rfl
  · refine rx_aload_n C 0 dX5_letterOunces_16 rfl rfl ?_
    refine rx_getI C (k := 2) sx_5 fc_X5 (by decide) rfl lk_X5_19 dX5_letterOunces_17 ?_
    refine rx_lti (fun w9 => ?_)
    refine rx_istore_n C [(1, .int w9), (0, .ref (α 5))] dX5_letterOunces_20 rfl (by decide) rfl ?_
    refine rx_aload_n C 1 dX5_letterOunces_21 rfl rfl ?_
    refine rx_iconst C dX5_letterOunces_22 ic_1 ?_
    refine rx_bipush C dX5_letterOunces_23 bp_99 ?_
    refine rx_callVi C [.int (1 : Int32), .int (99 : Int32)] [] (m_X5_number z.l C.inj (1 : Int32) (99 : Int32) q8.2) mv_X5_number lk_X5_78 sx_5 rfl rfl rfl (Nat.le_of_ble_eq_true rfl) ⟨Nat.le_of_ble_eq_true rfl, Nat.le_of_ble_eq_true rfl⟩ dX5_letterOunces_25 (fun q10 => ?_)
    refine rx_if_ne C (tgt := 33) dX5_letterOunces_28 (by decide) (fun _ => ?_) (fun _ => ?_)
    · refine rx_iconst C dX5_letterOunces_31 ic_0 ?_
      exact rx_zretC C dX5_letterOunces_32 rfl
    · refine rx_aload_n C 1 dX5_letterOunces_33 rfl rfl ?_
      refine rx_getR C (k := 1) sx_5 fc_X5 (by decide) rfl lk_X5_15 dX5_letterOunces_34 ?_
      refine rx_ltr (fun g11 => ?_)
      refine rx_if (fun hg11 => ?_) (fun _ => rx_none)
      refine rx_getC C (k := 5) (ld_sh (landB_is hg11)) fc_X4 (by decide) (g11 + 16) rfl lk_X5_82 dX5_letterOunces_37 ?_
      refine rx_iload_n C 0 dX5_letterOunces_40 rfl rfl ?_
      refine rx_aload_n C 1 dX5_letterOunces_41 rfl rfl ?_
      refine rx_getI C (k := 2) sx_5 fc_X5 (by decide) rfl lk_X5_19 dX5_letterOunces_42 ?_
      refine rx_iast C (n := 26) (ldl_16 (landB_is hg11)) dX5_letterOunces_45 (fun _ => ?_)
      refine rx_lts (fun σ12 => ?_)
      refine rx_iconst C dX5_letterOunces_46 ic_1 ?_
      exact rx_zretC C dX5_letterOunces_47 rfl
theorem m_X5_letterOunces (l : Launch) {α : Nat → Nat} {D : va_G} {cA : Nat → ClassId} (hin : inj shX.length α) (σ : St) : CT shX l yX5_letterOunces cX5_letterOunces 2 (some .boolean) 3 66 emI α D cA [.ref (α 5)] σ (f_X5_letterOunces σ) := ct_of rfl (Nat.le_of_ble_eq_true rfl) hin (fun z _ C => w_X5_letterOunces_e C σ)
set_option maxRecDepth 100000 in
set_option maxHeartbeats 4000000 in
theorem w_X5_begin_e {α : Nat → Nat} {D : va_G} {cA : Nat → ClassId} {z : Cz} (C : CX shX α D cA z RX5 cX5_begin 2 (some .boolean) 2 43) (r1 : Nat) (hr1 : isRoll r1) (σ : St) : RX emI shX α D cA z 2 σ 0 [(0, .ref (α 5)), (1, .ref (α r1))] [] (f_X5_begin r1 σ) := by
  unfold f_X5_begin
  refine rx_aload_n C 1 dX5_begin_0 rfl rfl ?_
  refine rx_callVi C [] [] (m_X8_isFull z.l C.inj r1 hr1 σ) mv_X8_isFull lk_X5_157 (ro_sh hr1) rfl rfl rfl (Nat.le_of_ble_eq_true rfl) ⟨Nat.le_of_ble_eq_true rfl, Nat.le_of_ble_eq_true rfl⟩ dX5_begin_1 (fun q4 => ?_)
  refine rx_if_eq C (tgt := 16) dX5_begin_4 (by decide) (fun _ => ?_) (fun _ => ?_)
  · refine rx_aload_n C 0 dX5_begin_16 rfl rfl ?_
    refine rx_getC C (k := 0) sx_5 fc_X5 (by decide) 3 rfl lk_X5_9 dX5_begin_17 ?_
    refine rx_callVv C [] [] (m_X6_skip z.l C.inj q4.2) mv_X6_skip lk_X5_72 sx_3 rfl rfl rfl (Nat.le_of_ble_eq_true rfl) ⟨Nat.le_of_ble_eq_true rfl, Nat.le_of_ble_eq_true rfl⟩ dX5_begin_20 (fun q5 => ?_)
    refine rx_iconst C dX5_begin_23 ic_1 ?_
    exact rx_zretC C dX5_begin_24 rfl
  · refine rx_aload_n C 0 dX5_begin_7 rfl rfl ?_
    refine rx_getC C (k := 0) sx_5 fc_X5 (by decide) 3 rfl lk_X5_9 dX5_begin_8 ?_
    refine rx_iconst C dX5_begin_11 ic_5 ?_
    refine rx_callVi C [.int (5 : Int32)] [] (m_X6_failHere z.l C.inj (5 : Int32) q4.2) mv_X6_failHere lk_X5_62 sx_3 rfl rfl rfl (Nat.le_of_ble_eq_true rfl) ⟨Nat.le_of_ble_eq_true rfl, Nat.le_of_ble_eq_true rfl⟩ dX5_begin_12 (fun q6 => ?_)
    exact rx_zret C dX5_begin_15
theorem m_X5_begin (l : Launch) {α : Nat → Nat} {D : va_G} {cA : Nat → ClassId} (hin : inj shX.length α) (r1 : Nat) (hr1 : isRoll r1) (σ : St) : CT shX l yX5_begin cX5_begin 2 (some .boolean) 2 43 emI α D cA [.ref (α 5), .ref (α r1)] σ (f_X5_begin r1 σ) := ct_of rfl (Nat.le_of_ble_eq_true rfl) hin (fun z _ C => w_X5_begin_e C r1 hr1 σ)
set_option maxRecDepth 100000 in
set_option maxHeartbeats 4000000 in
theorem w_X5_keep_e {α : Nat → Nat} {D : va_G} {cA : Nat → ClassId} {z : Cz} (C : CX shX α D cA z RX5 cX5_keep 3 (some .boolean) 2 44) (r1 : Nat) (hr1 : isRoll r1) (x2 : Int32) (σ : St) : RX emI shX α D cA z 3 σ 0 [(0, .ref (α 5)), (1, .ref (α r1)), (2, .int x2)] [] (f_X5_keep r1 x2 σ) := by
  unfold f_X5_keep
  refine rx_aload_n C 1 dX5_keep_0 rfl rfl ?_
  refine rx_aload_n C 1 dX5_keep_1 rfl rfl ?_
  refine rx_getI C (k := 4) (ro_sh hr1) fc_X8 (by decide) rfl lk_X5_131 dX5_keep_2 ?_
  refine rx_iconst C dX5_keep_5 ic_1 ?_
  refine rx_isub C dX5_keep_6 ?_
  refine rx_iload_n C 2 dX5_keep_7 rfl rfl ?_
  refine rx_aload_n C 0 dX5_keep_8 rfl rfl ?_
  refine rx_getI C (k := 2) sx_5 fc_X5 (by decide) rfl lk_X5_19 dX5_keep_9 ?_
  refine rx_callVv C [.int ((gI σ r1 4) - (1 : Int32)), .int x2, .int (gI σ 5 2)] [] (m_X8_put z.l C.inj r1 hr1 ((gI σ r1 4) - (1 : Int32)) x2 (gI σ 5 2) σ) mv_X8_put lk_X5_147 (ro_sh hr1) rfl rfl rfl (Nat.le_of_ble_eq_true rfl) ⟨Nat.le_of_ble_eq_true rfl, Nat.le_of_ble_eq_true rfl⟩ dX5_keep_12 (fun q2 => ?_)
  refine rx_iconst C dX5_keep_15 ic_1 ?_
  exact rx_zretC C dX5_keep_16 rfl
theorem m_X5_keep (l : Launch) {α : Nat → Nat} {D : va_G} {cA : Nat → ClassId} (hin : inj shX.length α) (r1 : Nat) (hr1 : isRoll r1) (x2 : Int32) (σ : St) : CT shX l yX5_keep cX5_keep 3 (some .boolean) 2 44 emI α D cA [.ref (α 5), .ref (α r1), .int x2] σ (f_X5_keep r1 x2 σ) := ct_of rfl (Nat.le_of_ble_eq_true rfl) hin (fun z _ C => w_X5_keep_e C r1 hr1 x2 σ)
set_option maxRecDepth 100000 in
set_option maxHeartbeats 4000000 in
theorem w_X5_newAge_125 {α : Nat → Nat} {D : va_G} {cA : Nat → ClassId} {z : Cz} (C : CX shX α D cA z RX5 cX5_newAge 2 (some .boolean) 3 66) (s0 : Int32) (σ : St) : RX emI shX α D cA z 2 σ 125 [] [.int s0] (f_X5_newAge_125 s0 σ) := by
  unfold f_X5_newAge_125
  exact rx_zret C dX5_newAge_125
set_option maxRecDepth 100000 in
set_option maxHeartbeats 4000000 in
theorem w_X5_newAge_124 {α : Nat → Nat} {D : va_G} {cA : Nat → ClassId} {z : Cz} (C : CX shX α D cA z RX5 cX5_newAge 2 (some .boolean) 3 66) (σ : St) : RX emI shX α D cA z 2 σ 124 [] [] (f_X5_newAge_124 σ) := by
  unfold f_X5_newAge_124
  refine rx_iconst C dX5_newAge_124 ic_0 ?_
  exact RX.loc (w_X5_newAge_125 C (0 : Int32) σ) [] rfl
set_option maxRecDepth 100000 in
set_option maxHeartbeats 4000000 in
theorem w_X5_newAge_57 {α : Nat → Nat} {D : va_G} {cA : Nat → ClassId} {z : Cz} (C : CX shX α D cA z RX5 cX5_newAge 2 (some .boolean) 3 66) (x1 : Int32) (σ : St) : RX emI shX α D cA z 2 σ 57 [(0, .ref (α 5)), (1, .int x1)] [] (f_X5_newAge_57 x1 σ) := by
  unfold f_X5_newAge_57
  refine rx_aload_n C 0 dX5_newAge_57 rfl rfl ?_
  refine rx_iload_n C 1 dX5_newAge_58 rfl rfl ?_
  refine rx_bipush C dX5_newAge_59 bp_99 ?_
  refine rx_callVi C [.int x1, .int (99 : Int32)] [] (m_X5_number z.l C.inj x1 (99 : Int32) σ) mv_X5_number lk_X5_78 sx_5 rfl rfl rfl (Nat.le_of_ble_eq_true rfl) ⟨Nat.le_of_ble_eq_true rfl, Nat.le_of_ble_eq_true rfl⟩ dX5_newAge_61 (fun q19 => ?_)
  refine rx_if_ne C (tgt := 69) dX5_newAge_64 (by decide) (fun _ => ?_) (fun _ => ?_)
  · refine rx_iconst C dX5_newAge_67 ic_0 ?_
    exact rx_zretC C dX5_newAge_68 rfl
  · refine rx_aload_n C 0 dX5_newAge_69 rfl rfl ?_
    refine rx_getR C (k := 1) sx_5 fc_X5 (by decide) rfl lk_X5_15 dX5_newAge_70 ?_
    refine rx_ltr (fun g20 => ?_)
    refine rx_if (fun hg20 => ?_) (fun _ => rx_none)
    refine rx_getC C (k := 2) (ld_sh (landB_is hg20)) fc_X4 (by decide) (g20 + 7) rfl lk_X5_128 dX5_newAge_73 ?_
    refine rx_iconst C dX5_newAge_76 ic_0 ?_
    refine rx_callVi C [.int (0 : Int32)] [] (m_X8_add z.l C.inj (g20 + 7) (ld_7 (landB_is hg20)) (0 : Int32) q19.2) mv_X8_add lk_X5_138 (ro_sh (ld_7 (landB_is hg20))) rfl rfl rfl (Nat.le_of_ble_eq_true rfl) ⟨Nat.le_of_ble_eq_true rfl, Nat.le_of_ble_eq_true rfl⟩ dX5_newAge_77 (fun q21 => ?_)
    refine rx_pop C dX5_newAge_80 rfl ?_
    refine rx_aload_n C 0 dX5_newAge_81 rfl rfl ?_
    refine rx_aload_n C 0 dX5_newAge_82 rfl rfl ?_
    refine rx_getR C (k := 1) sx_5 fc_X5 (by decide) rfl lk_X5_15 dX5_newAge_83 ?_
    refine rx_ltr (fun g22 => ?_)
    refine rx_if (fun hg22 => ?_) (fun _ => rx_none)
    refine rx_getC C (k := 2) (ld_sh (landB_is hg22)) fc_X4 (by decide) (g22 + 7) rfl lk_X5_128 dX5_newAge_86 ?_
    refine rx_iconst C dX5_newAge_89 ic_0 ?_
    refine rx_callVi C [.ref (α (g22 + 7)), .int (0 : Int32)] [] (m_X5_keep z.l C.inj (g22 + 7) (ld_7 (landB_is hg22)) (0 : Int32) q21.2) mv_X5_keep lk_X5_103 sx_5 rfl rfl rfl (Nat.le_of_ble_eq_true rfl) ⟨Nat.le_of_ble_eq_true rfl, Nat.le_of_ble_eq_true rfl⟩ dX5_newAge_90 (fun q23 => ?_)
    refine rx_pop C dX5_newAge_93 rfl ?_
    refine rx_aload_n C 0 dX5_newAge_94 rfl rfl ?_
    refine rx_iconst C dX5_newAge_95 ic_0 ?_
    refine rx_sipush C dX5_newAge_96 sp_200 ?_
    refine rx_callVi C [.int (0 : Int32), .int (200 : Int32)] [] (m_X5_number z.l C.inj (0 : Int32) (200 : Int32) q23.2) mv_X5_number lk_X5_78 sx_5 rfl rfl rfl (Nat.le_of_ble_eq_true rfl) ⟨Nat.le_of_ble_eq_true rfl, Nat.le_of_ble_eq_true rfl⟩ dX5_newAge_99 (fun q24 => ?_)
    refine rx_if_eq C (tgt := 124) dX5_newAge_102 (by decide) (fun _ => ?_) (fun _ => ?_)
    · exact RX.loc (w_X5_newAge_124 C q24.2) [] rfl
    · refine rx_aload_n C 0 dX5_newAge_105 rfl rfl ?_
      refine rx_aload_n C 0 dX5_newAge_106 rfl rfl ?_
      refine rx_getR C (k := 1) sx_5 fc_X5 (by decide) rfl lk_X5_15 dX5_newAge_107 ?_
      refine rx_ltr (fun g25 => ?_)
      refine rx_if (fun hg25 => ?_) (fun _ => rx_none)
      refine rx_getC C (k := 2) (ld_sh (landB_is hg25)) fc_X4 (by decide) (g25 + 7) rfl lk_X5_128 dX5_newAge_110 ?_
      refine rx_iconst C dX5_newAge_113 ic_1 ?_
      refine rx_callVi C [.ref (α (g25 + 7)), .int (1 : Int32)] [] (m_X5_keep z.l C.inj (g25 + 7) (ld_7 (landB_is hg25)) (1 : Int32) q24.2) mv_X5_keep lk_X5_103 sx_5 rfl rfl rfl (Nat.le_of_ble_eq_true rfl) ⟨Nat.le_of_ble_eq_true rfl, Nat.le_of_ble_eq_true rfl⟩ dX5_newAge_114 (fun q26 => ?_)
      refine rx_if_eq C (tgt := 124) dX5_newAge_117 (by decide) (fun _ => ?_) (fun _ => ?_)
      · exact RX.loc (w_X5_newAge_124 C q26.2) [] rfl
      · refine rx_iconst C dX5_newAge_120 ic_1 ?_
        refine rx_goto C (tgt := 125) dX5_newAge_121 (by decide) ?_
        exact RX.loc (w_X5_newAge_125 C (1 : Int32) q26.2) [] rfl
set_option maxRecDepth 100000 in
set_option maxHeartbeats 4000000 in
theorem w_X5_newAge_e {α : Nat → Nat} {D : va_G} {cA : Nat → ClassId} {z : Cz} (C : CX shX α D cA z RX5 cX5_newAge 2 (some .boolean) 3 66) (σ : St) : RX emI shX α D cA z 2 σ 0 [(0, .ref (α 5))] [] (f_X5_newAge σ) := by
  unfold f_X5_newAge
  refine rx_aload_n C 0 dX5_newAge_0 rfl rfl ?_
  refine rx_aload_n C 0 dX5_newAge_1 rfl rfl ?_
  refine rx_getR C (k := 1) sx_5 fc_X5 (by decide) rfl lk_X5_15 dX5_newAge_2 ?_
  refine rx_ltr (fun g16 => ?_)
  refine rx_if (fun hg16 => ?_) (fun _ => rx_none)
  refine rx_getC C (k := 2) (ld_sh (landB_is hg16)) fc_X4 (by decide) (g16 + 7) rfl lk_X5_128 dX5_newAge_5 ?_
  refine rx_callVi C [.ref (α (g16 + 7))] [] (m_X5_begin z.l C.inj (g16 + 7) (ld_7 (landB_is hg16)) σ) mv_X5_begin lk_X5_96 sx_5 rfl rfl rfl (Nat.le_of_ble_eq_true rfl) ⟨Nat.le_of_ble_eq_true rfl, Nat.le_of_ble_eq_true rfl⟩ dX5_newAge_8 (fun q17 => ?_)
  refine rx_if_ne C (tgt := 16) dX5_newAge_11 (by decide) (fun _ => ?_) (fun _ => ?_)
  · refine rx_iconst C dX5_newAge_14 ic_0 ?_
    exact rx_zretC C dX5_newAge_15 rfl
  · refine rx_iconst C dX5_newAge_16 ic_0 ?_
    refine rx_istore_n C [(1, .int (0 : Int32)), (0, .ref (α 5))] dX5_newAge_17 rfl (by decide) rfl ?_
    refine rx_aload_n C 1 dX5_newAge_18 rfl rfl ?_
    refine rx_getR C (k := 1) sx_5 fc_X5 (by decide) rfl lk_X5_15 dX5_newAge_19 ?_
    refine rx_ltr (fun g18 => ?_)
    refine rx_if (fun hg18 => ?_) (fun _ => rx_none)
    refine rx_getC C (k := 2) (ld_sh (landB_is hg18)) fc_X4 (by decide) (g18 + 7) rfl lk_X5_128 dX5_newAge_22 ?_
    refine rx_getI C (k := 4) (ro_sh (ld_7 (landB_is hg18))) fc_X8 (by decide) rfl lk_X5_131 dX5_newAge_25 ?_
    refine rx_if_le C (tgt := 57) dX5_newAge_28 (by decide) (fun _ => ?_) (fun _ => ?_)
    · exact RX.loc (w_X5_newAge_57 C (0 : Int32) q17.2) [1, 0] rfl
    · refine rx_aload_n C 1 dX5_newAge_31 rfl rfl ?_
      refine rx_getR C (k := 1) sx_5 fc_X5 (by decide) rfl lk_X5_15 dX5_newAge_32 ?_
      refine rx_ltr (fun g27 => ?_)
      refine rx_if (fun hg27 => ?_) (fun _ => rx_none)
      refine rx_getC C (k := 2) (ld_sh (landB_is hg27)) fc_X4 (by decide) (g27 + 7) rfl lk_X5_128 dX5_newAge_35 ?_
      refine rx_aload_n C 1 dX5_newAge_38 rfl rfl ?_
      refine rx_getR C (k := 1) sx_5 fc_X5 (by decide) rfl lk_X5_15 dX5_newAge_39 ?_
      refine rx_ltr (fun g28 => ?_)
      refine rx_if (fun hg28 => ?_) (fun _ => rx_none)
      refine rx_getC C (k := 2) (ld_sh (landB_is hg28)) fc_X4 (by decide) (g28 + 7) rfl lk_X5_128 dX5_newAge_42 ?_
      refine rx_getI C (k := 4) (ro_sh (ld_7 (landB_is hg28))) fc_X8 (by decide) rfl lk_X5_131 dX5_newAge_45 ?_
      refine rx_iconst C dX5_newAge_48 ic_1 ?_
      refine rx_isub C dX5_newAge_49 ?_
      refine rx_iconst C dX5_newAge_50 ic_0 ?_
      refine rx_callVi C [.int ((gI q17.2 (g28 + 7) 4) - (1 : Int32)), .int (0 : Int32)] [] (m_X8_get z.l C.inj (g27 + 7) (ld_7 (landB_is hg27)) ((gI q17.2 (g28 + 7) 4) - (1 : Int32)) (0 : Int32) q17.2) mv_X8_get lk_X5_134 (ro_sh (ld_7 (landB_is hg27))) rfl rfl rfl (Nat.le_of_ble_eq_true rfl) ⟨Nat.le_of_ble_eq_true rfl, Nat.le_of_ble_eq_true rfl⟩ dX5_newAge_51 (fun q29 => ?_)
      refine rx_iconst C dX5_newAge_54 ic_1 ?_
      refine rx_iadd C dX5_newAge_55 ?_
      refine rx_lti (fun w30 => ?_)
      refine rx_istore_n C [(1, .int w30), (0, .ref (α 5))] dX5_newAge_56 rfl (by decide) rfl ?_
      exact RX.loc (w_X5_newAge_57 C w30 q29.2) [1, 0] rfl
theorem m_X5_newAge (l : Launch) {α : Nat → Nat} {D : va_G} {cA : Nat → ClassId} (hin : inj shX.length α) (σ : St) : CT shX l yX5_newAge cX5_newAge 2 (some .boolean) 3 66 emI α D cA [.ref (α 5)] σ (f_X5_newAge σ) := ct_of rfl (Nat.le_of_ble_eq_true rfl) hin (fun z _ C => w_X5_newAge_e C σ)
set_option maxRecDepth 100000 in
set_option maxHeartbeats 4000000 in
theorem w_X5_newName_e {α : Nat → Nat} {D : va_G} {cA : Nat → ClassId} {z : Cz} (C : CX shX α D cA z RX5 cX5_newName 2 (some .boolean) 2 44) (r1 : Nat) (hr1 : isRoll r1) (σ : St) : RX emI shX α D cA z 2 σ 0 [(0, .ref (α 5)), (1, .ref (α r1))] [] (f_X5_newName r1 σ) := by
  unfold f_X5_newName
  refine rx_aload_n C 0 dX5_newName_0 rfl rfl ?_
  refine rx_getC C (k := 0) sx_5 fc_X5 (by decide) 3 rfl lk_X5_9 dX5_newName_1 ?_
  refine rx_callVi C [] [] (m_X6_look z.l C.inj σ) mv_X6_look lk_X5_28 sx_3 rfl rfl rfl (Nat.le_of_ble_eq_true rfl) ⟨Nat.le_of_ble_eq_true rfl, Nat.le_of_ble_eq_true rfl⟩ dX5_newName_4 (fun q8 => ?_)
  refine rx_sipush C dX5_newName_7 sp_300 ?_
  refine rx_icmp_eq C (tgt := 22) dX5_newName_10 (by decide) (fun _ => ?_) (fun _ => ?_)
  · refine rx_aload_n C 0 dX5_newName_22 rfl rfl ?_
    refine rx_getR C (k := 1) sx_5 fc_X5 (by decide) rfl lk_X5_15 dX5_newName_23 ?_
    refine rx_ltr (fun g9 => ?_)
    refine rx_if (fun hg9 => ?_) (fun _ => rx_none)
    refine rx_aload_n C 0 dX5_newName_26 rfl rfl ?_
    refine rx_getC C (k := 0) sx_5 fc_X5 (by decide) 3 rfl lk_X5_9 dX5_newName_27 ?_
    refine rx_getI C (k := 6) sx_3 fc_X6 (by decide) rfl lk_X5_116 dX5_newName_30 ?_
    refine rx_callVi C [.int (gI q8.2 3 6)] [] (m_X4_isNamed z.l C.inj g9 (landB_is hg9) (gI q8.2 3 6) q8.2) mv_X4_isNamed lk_X5_166 (ld_sh (landB_is hg9)) rfl rfl rfl (Nat.le_of_ble_eq_true rfl) ⟨Nat.le_of_ble_eq_true rfl, Nat.le_of_ble_eq_true rfl⟩ dX5_newName_33 (fun q10 => ?_)
    refine rx_if_eq C (tgt := 48) dX5_newName_36 (by decide) (fun _ => ?_) (fun _ => ?_)
    · refine rx_aload_n C 1 dX5_newName_48 rfl rfl ?_
      refine rx_aload_n C 0 dX5_newName_49 rfl rfl ?_
      refine rx_getC C (k := 0) sx_5 fc_X5 (by decide) 3 rfl lk_X5_9 dX5_newName_50 ?_
      refine rx_getI C (k := 6) sx_3 fc_X6 (by decide) rfl lk_X5_116 dX5_newName_53 ?_
      refine rx_callVi C [.int (gI q10.2 3 6)] [] (m_X8_add z.l C.inj r1 hr1 (gI q10.2 3 6) q10.2) mv_X8_add lk_X5_138 (ro_sh hr1) rfl rfl rfl (Nat.le_of_ble_eq_true rfl) ⟨Nat.le_of_ble_eq_true rfl, Nat.le_of_ble_eq_true rfl⟩ dX5_newName_56 (fun q11 => ?_)
      refine rx_pop C dX5_newName_59 rfl ?_
      refine rx_aload_n C 0 dX5_newName_60 rfl rfl ?_
      refine rx_getC C (k := 0) sx_5 fc_X5 (by decide) 3 rfl lk_X5_9 dX5_newName_61 ?_
      refine rx_callVv C [] [] (m_X6_skip z.l C.inj q11.2) mv_X6_skip lk_X5_72 sx_3 rfl rfl rfl (Nat.le_of_ble_eq_true rfl) ⟨Nat.le_of_ble_eq_true rfl, Nat.le_of_ble_eq_true rfl⟩ dX5_newName_64 (fun q12 => ?_)
      refine rx_iconst C dX5_newName_67 ic_1 ?_
      exact rx_zretC C dX5_newName_68 rfl
    · refine rx_aload_n C 0 dX5_newName_39 rfl rfl ?_
      refine rx_getC C (k := 0) sx_5 fc_X5 (by decide) 3 rfl lk_X5_9 dX5_newName_40 ?_
      refine rx_iconst C dX5_newName_43 ic_2 ?_
      refine rx_callVi C [.int (2 : Int32)] [] (m_X6_failHere z.l C.inj (2 : Int32) q10.2) mv_X6_failHere lk_X5_62 sx_3 rfl rfl rfl (Nat.le_of_ble_eq_true rfl) ⟨Nat.le_of_ble_eq_true rfl, Nat.le_of_ble_eq_true rfl⟩ dX5_newName_44 (fun q13 => ?_)
      exact rx_zret C dX5_newName_47
  · refine rx_aload_n C 0 dX5_newName_13 rfl rfl ?_
    refine rx_getC C (k := 0) sx_5 fc_X5 (by decide) 3 rfl lk_X5_9 dX5_newName_14 ?_
    refine rx_iconst C dX5_newName_17 ic_1 ?_
    refine rx_callVi C [.int (1 : Int32)] [] (m_X6_failHere z.l C.inj (1 : Int32) q8.2) mv_X6_failHere lk_X5_62 sx_3 rfl rfl rfl (Nat.le_of_ble_eq_true rfl) ⟨Nat.le_of_ble_eq_true rfl, Nat.le_of_ble_eq_true rfl⟩ dX5_newName_18 (fun q14 => ?_)
    exact rx_zret C dX5_newName_21
theorem m_X5_newName (l : Launch) {α : Nat → Nat} {D : va_G} {cA : Nat → ClassId} (hin : inj shX.length α) (r1 : Nat) (hr1 : isRoll r1) (σ : St) : CT shX l yX5_newName cX5_newName 2 (some .boolean) 2 44 emI α D cA [.ref (α 5), .ref (α r1)] σ (f_X5_newName r1 σ) := ct_of rfl (Nat.le_of_ble_eq_true rfl) hin (fun z _ C => w_X5_newName_e C r1 hr1 σ)
set_option maxRecDepth 100000 in
set_option maxHeartbeats 4000000 in
theorem w_X5_newBridge_59 {α : Nat → Nat} {D : va_G} {cA : Nat → ClassId} {z : Cz} (C : CX shX α D cA z RX5 cX5_newBridge 1 (some .boolean) 3 66) (s0 : Int32) (σ : St) : RX emI shX α D cA z 1 σ 59 [] [.int s0] (f_X5_newBridge_59 s0 σ) := by
  unfold f_X5_newBridge_59
  exact rx_zret C dX5_newBridge_59
set_option maxRecDepth 100000 in
set_option maxHeartbeats 4000000 in
theorem w_X5_newBridge_58 {α : Nat → Nat} {D : va_G} {cA : Nat → ClassId} {z : Cz} (C : CX shX α D cA z RX5 cX5_newBridge 1 (some .boolean) 3 66) (σ : St) : RX emI shX α D cA z 1 σ 58 [] [] (f_X5_newBridge_58 σ) := by
  unfold f_X5_newBridge_58
  refine rx_iconst C dX5_newBridge_58 ic_0 ?_
  exact RX.loc (w_X5_newBridge_59 C (0 : Int32) σ) [] rfl
set_option maxRecDepth 100000 in
set_option maxHeartbeats 4000000 in
theorem w_X5_newBridge_e {α : Nat → Nat} {D : va_G} {cA : Nat → ClassId} {z : Cz} (C : CX shX α D cA z RX5 cX5_newBridge 1 (some .boolean) 3 66) (σ : St) : RX emI shX α D cA z 1 σ 0 [(0, .ref (α 5))] [] (f_X5_newBridge σ) := by
  unfold f_X5_newBridge
  refine rx_aload_n C 0 dX5_newBridge_0 rfl rfl ?_
  refine rx_aload_n C 0 dX5_newBridge_1 rfl rfl ?_
  refine rx_getR C (k := 1) sx_5 fc_X5 (by decide) rfl lk_X5_15 dX5_newBridge_2 ?_
  refine rx_ltr (fun g8 => ?_)
  refine rx_if (fun hg8 => ?_) (fun _ => rx_none)
  refine rx_getC C (k := 4) (ld_sh (landB_is hg8)) fc_X4 (by decide) (g8 + 13) rfl lk_X5_110 dX5_newBridge_5 ?_
  refine rx_callVi C [.ref (α (g8 + 13))] [] (m_X5_begin z.l C.inj (g8 + 13) (ld_13 (landB_is hg8)) σ) mv_X5_begin lk_X5_96 sx_5 rfl rfl rfl (Nat.le_of_ble_eq_true rfl) ⟨Nat.le_of_ble_eq_true rfl, Nat.le_of_ble_eq_true rfl⟩ dX5_newBridge_8 (fun q9 => ?_)
  refine rx_if_eq C (tgt := 58) dX5_newBridge_11 (by decide) (fun _ => ?_) (fun _ => ?_)
  · exact RX.loc (w_X5_newBridge_58 C q9.2) [] rfl
  · refine rx_aload_n C 0 dX5_newBridge_14 rfl rfl ?_
    refine rx_aload_n C 0 dX5_newBridge_15 rfl rfl ?_
    refine rx_getR C (k := 1) sx_5 fc_X5 (by decide) rfl lk_X5_15 dX5_newBridge_16 ?_
    refine rx_ltr (fun g10 => ?_)
    refine rx_if (fun hg10 => ?_) (fun _ => rx_none)
    refine rx_getC C (k := 4) (ld_sh (landB_is hg10)) fc_X4 (by decide) (g10 + 13) rfl lk_X5_110 dX5_newBridge_19 ?_
    refine rx_callVi C [.ref (α (g10 + 13))] [] (m_X5_newName z.l C.inj (g10 + 13) (ld_13 (landB_is hg10)) q9.2) mv_X5_newName lk_X5_100 sx_5 rfl rfl rfl (Nat.le_of_ble_eq_true rfl) ⟨Nat.le_of_ble_eq_true rfl, Nat.le_of_ble_eq_true rfl⟩ dX5_newBridge_22 (fun q11 => ?_)
    refine rx_if_eq C (tgt := 58) dX5_newBridge_25 (by decide) (fun _ => ?_) (fun _ => ?_)
    · exact RX.loc (w_X5_newBridge_58 C q11.2) [] rfl
    · refine rx_aload_n C 0 dX5_newBridge_28 rfl rfl ?_
      refine rx_iconst C dX5_newBridge_29 ic_0 ?_
      refine rx_sipush C dX5_newBridge_30 sp_9999 ?_
      refine rx_callVi C [.int (0 : Int32), .int (9999 : Int32)] [] (m_X5_number z.l C.inj (0 : Int32) (9999 : Int32) q11.2) mv_X5_number lk_X5_78 sx_5 rfl rfl rfl (Nat.le_of_ble_eq_true rfl) ⟨Nat.le_of_ble_eq_true rfl, Nat.le_of_ble_eq_true rfl⟩ dX5_newBridge_33 (fun q12 => ?_)
      refine rx_if_eq C (tgt := 58) dX5_newBridge_36 (by decide) (fun _ => ?_) (fun _ => ?_)
      · exact RX.loc (w_X5_newBridge_58 C q12.2) [] rfl
      · refine rx_aload_n C 0 dX5_newBridge_39 rfl rfl ?_
        refine rx_aload_n C 0 dX5_newBridge_40 rfl rfl ?_
        refine rx_getR C (k := 1) sx_5 fc_X5 (by decide) rfl lk_X5_15 dX5_newBridge_41 ?_
        refine rx_ltr (fun g13 => ?_)
        refine rx_if (fun hg13 => ?_) (fun _ => rx_none)
        refine rx_getC C (k := 4) (ld_sh (landB_is hg13)) fc_X4 (by decide) (g13 + 13) rfl lk_X5_110 dX5_newBridge_44 ?_
        refine rx_iconst C dX5_newBridge_47 ic_0 ?_
        refine rx_callVi C [.ref (α (g13 + 13)), .int (0 : Int32)] [] (m_X5_keep z.l C.inj (g13 + 13) (ld_13 (landB_is hg13)) (0 : Int32) q12.2) mv_X5_keep lk_X5_103 sx_5 rfl rfl rfl (Nat.le_of_ble_eq_true rfl) ⟨Nat.le_of_ble_eq_true rfl, Nat.le_of_ble_eq_true rfl⟩ dX5_newBridge_48 (fun q14 => ?_)
        refine rx_if_eq C (tgt := 58) dX5_newBridge_51 (by decide) (fun _ => ?_) (fun _ => ?_)
        · exact RX.loc (w_X5_newBridge_58 C q14.2) [] rfl
        · refine rx_iconst C dX5_newBridge_54 ic_1 ?_
          refine rx_goto C (tgt := 59) dX5_newBridge_55 (by decide) ?_
          exact RX.loc (w_X5_newBridge_59 C (1 : Int32) q14.2) [] rfl
theorem m_X5_newBridge (l : Launch) {α : Nat → Nat} {D : va_G} {cA : Nat → ClassId} (hin : inj shX.length α) (σ : St) : CT shX l yX5_newBridge cX5_newBridge 1 (some .boolean) 3 66 emI α D cA [.ref (α 5)] σ (f_X5_newBridge σ) := ct_of rfl (Nat.le_of_ble_eq_true rfl) hin (fun z _ C => w_X5_newBridge_e C σ)
set_option maxRecDepth 100000 in
set_option maxHeartbeats 4000000 in
theorem w_X5_bracket_e {α : Nat → Nat} {D : va_G} {cA : Nat → ClassId} {z : Cz} (C : CX shX α D cA z RX5 cX5_bracket 2 (some .boolean) 2 43) (x1 : Int32) (σ : St) : RX emI shX α D cA z 2 σ 0 [(0, .ref (α 5)), (1, .int x1)] [] (f_X5_bracket x1 σ) := by
  unfold f_X5_bracket
  refine rx_iload_n C 1 dX5_bracket_0 rfl rfl ?_
  refine rx_bipush C dX5_bracket_1 bp_8 ?_
  refine rx_icmp_lt C (tgt := 15) dX5_bracket_3 (by decide) (fun _ => ?_) (fun _ => ?_)
  · refine rx_aload_n C 0 dX5_bracket_15 rfl rfl ?_
    refine rx_getC C (k := 0) sx_5 fc_X5 (by decide) 3 rfl lk_X5_9 dX5_bracket_16 ?_
    refine rx_callVv C [] [] (m_X6_skip z.l C.inj σ) mv_X6_skip lk_X5_72 sx_3 rfl rfl rfl (Nat.le_of_ble_eq_true rfl) ⟨Nat.le_of_ble_eq_true rfl, Nat.le_of_ble_eq_true rfl⟩ dX5_bracket_19 (fun q3 => ?_)
    refine rx_iconst C dX5_bracket_22 ic_1 ?_
    exact rx_zretC C dX5_bracket_23 rfl
  · refine rx_aload_n C 0 dX5_bracket_6 rfl rfl ?_
    refine rx_getC C (k := 0) sx_5 fc_X5 (by decide) 3 rfl lk_X5_9 dX5_bracket_7 ?_
    refine rx_iconst C dX5_bracket_10 ic_5 ?_
    refine rx_callVi C [.int (5 : Int32)] [] (m_X6_failHere z.l C.inj (5 : Int32) σ) mv_X6_failHere lk_X5_62 sx_3 rfl rfl rfl (Nat.le_of_ble_eq_true rfl) ⟨Nat.le_of_ble_eq_true rfl, Nat.le_of_ble_eq_true rfl⟩ dX5_bracket_11 (fun q4 => ?_)
    exact rx_zret C dX5_bracket_14
theorem m_X5_bracket (l : Launch) {α : Nat → Nat} {D : va_G} {cA : Nat → ClassId} (hin : inj shX.length α) (x1 : Int32) (σ : St) : CT shX l yX5_bracket cX5_bracket 2 (some .boolean) 2 43 emI α D cA [.ref (α 5), .int x1] σ (f_X5_bracket x1 σ) := ct_of rfl (Nat.le_of_ble_eq_true rfl) hin (fun z _ C => w_X5_bracket_e C x1 σ)
set_option maxRecDepth 100000 in
set_option maxHeartbeats 4000000 in
theorem w_X5_token_e {α : Nat → Nat} {D : va_G} {cA : Nat → ClassId} {z : Cz} (C : CX shX α D cA z RX5 cX5_token 2 (some .boolean) 2 44) (x1 : Int32) (σ : St) : RX emI shX α D cA z 2 σ 0 [(0, .ref (α 5)), (1, .int x1)] [] (f_X5_token x1 σ) := by
  unfold f_X5_token
  refine rx_aload_n C 0 dX5_token_0 rfl rfl ?_
  refine rx_getC C (k := 0) sx_5 fc_X5 (by decide) 3 rfl lk_X5_9 dX5_token_1 ?_
  refine rx_callVi C [] [] (m_X6_look z.l C.inj σ) mv_X6_look lk_X5_28 sx_3 rfl rfl rfl (Nat.le_of_ble_eq_true rfl) ⟨Nat.le_of_ble_eq_true rfl, Nat.le_of_ble_eq_true rfl⟩ dX5_token_4 (fun q4 => ?_)
  refine rx_iload_n C 1 dX5_token_7 rfl rfl ?_
  refine rx_icmp_eq C (tgt := 20) dX5_token_8 (by decide) (fun _ => ?_) (fun _ => ?_)
  · refine rx_aload_n C 0 dX5_token_20 rfl rfl ?_
    refine rx_getC C (k := 0) sx_5 fc_X5 (by decide) 3 rfl lk_X5_9 dX5_token_21 ?_
    refine rx_callVv C [] [] (m_X6_skip z.l C.inj q4.2) mv_X6_skip lk_X5_72 sx_3 rfl rfl rfl (Nat.le_of_ble_eq_true rfl) ⟨Nat.le_of_ble_eq_true rfl, Nat.le_of_ble_eq_true rfl⟩ dX5_token_24 (fun q5 => ?_)
    refine rx_iconst C dX5_token_27 ic_1 ?_
    exact rx_zretC C dX5_token_28 rfl
  · refine rx_aload_n C 0 dX5_token_11 rfl rfl ?_
    refine rx_getC C (k := 0) sx_5 fc_X5 (by decide) 3 rfl lk_X5_9 dX5_token_12 ?_
    refine rx_iconst C dX5_token_15 ic_1 ?_
    refine rx_callVi C [.int (1 : Int32)] [] (m_X6_failHere z.l C.inj (1 : Int32) q4.2) mv_X6_failHere lk_X5_62 sx_3 rfl rfl rfl (Nat.le_of_ble_eq_true rfl) ⟨Nat.le_of_ble_eq_true rfl, Nat.le_of_ble_eq_true rfl⟩ dX5_token_16 (fun q6 => ?_)
    exact rx_zret C dX5_token_19
theorem m_X5_token (l : Launch) {α : Nat → Nat} {D : va_G} {cA : Nat → ClassId} (hin : inj shX.length α) (x1 : Int32) (σ : St) : CT shX l yX5_token cX5_token 2 (some .boolean) 2 44 emI α D cA [.ref (α 5), .int x1] σ (f_X5_token x1 σ) := ct_of rfl (Nat.le_of_ble_eq_true rfl) hin (fun z _ C => w_X5_token_e C x1 σ)
set_option maxRecDepth 100000 in
set_option maxHeartbeats 4000000 in
theorem w_X5_step_e {α : Nat → Nat} {D : va_G} {cA : Nat → ClassId} {z : Cz} (C : CX shX α D cA z RX5 cX5_step 2 (some .boolean) 1 21) (x1 : Int32) (σ : St) : RX emI shX α D cA z 2 σ 0 [(0, .ref (α 5)), (1, .int x1)] [] (f_X5_step x1 σ) := by
  unfold f_X5_step
  refine rx_aload_n C 0 dX5_step_0 rfl rfl ?_
  refine rx_getC C (k := 0) sx_5 fc_X5 (by decide) 3 rfl lk_X5_9 dX5_step_1 ?_
  refine rx_callVv C [] [] (m_X6_skip z.l C.inj σ) mv_X6_skip lk_X5_72 sx_3 rfl rfl rfl (Nat.le_of_ble_eq_true rfl) ⟨Nat.le_of_ble_eq_true rfl, Nat.le_of_ble_eq_true rfl⟩ dX5_step_4 (fun q4 => ?_)
  refine rx_aload_n C 0 dX5_step_7 rfl rfl ?_
  refine rx_getR C (k := 1) sx_5 fc_X5 (by decide) rfl lk_X5_15 dX5_step_8 ?_
  refine rx_ltr (fun g5 => ?_)
  refine rx_if (fun hg5 => ?_) (fun _ => rx_none)
  refine rx_iload_n C 1 dX5_step_11 rfl rfl ?_
  refine rx_callVi C [.int x1] [] (m_X4_addCode z.l C.inj g5 (landB_is hg5) x1 q4.2) mv_X4_addCode lk_X5_174 (ld_sh (landB_is hg5)) rfl rfl rfl (Nat.le_of_ble_eq_true rfl) ⟨Nat.le_of_ble_eq_true rfl, Nat.le_of_ble_eq_true rfl⟩ dX5_step_12 (fun q6 => ?_)
  exact rx_zret C dX5_step_15
theorem m_X5_step (l : Launch) {α : Nat → Nat} {D : va_G} {cA : Nat → ClassId} (hin : inj shX.length α) (x1 : Int32) (σ : St) : CT shX l yX5_step cX5_step 2 (some .boolean) 1 21 emI α D cA [.ref (α 5), .int x1] σ (f_X5_step x1 σ) := ct_of rfl (Nat.le_of_ble_eq_true rfl) hin (fun z _ C => w_X5_step_e C x1 σ)
set_option maxRecDepth 100000 in
set_option maxHeartbeats 4000000 in
theorem w_X5_choice_90 {d : Nat} {α : Nat → Nat} {D : va_G} {cA : Nat → ClassId} {z : Cz} (C : CX shX α D cA z RX5 cX5_choice 3 (some .boolean) (4 * d + 4) (91 * d + 89)) (rec : Int32 → St → Option (Int32 × St)) (hrec : ∀ (x1 : Int32) (σ : St), CT shX z.l yX5_sum cX5_sum 5 (some .boolean) (4 * d + 3) (91 * d + 65) emI α D cA [.ref (α 5), .int x1] σ (rec x1 σ)) (s0 : Int32) (σ : St) : RX emI shX α D cA z 3 σ 90 [] [.int s0] (f_X5_choice_90 rec s0 σ) := by
  unfold f_X5_choice_90
  exact rx_zret C dX5_choice_90
set_option maxRecDepth 100000 in
set_option maxHeartbeats 4000000 in
theorem w_X5_choice_89 {d : Nat} {α : Nat → Nat} {D : va_G} {cA : Nat → ClassId} {z : Cz} (C : CX shX α D cA z RX5 cX5_choice 3 (some .boolean) (4 * d + 4) (91 * d + 89)) (rec : Int32 → St → Option (Int32 × St)) (hrec : ∀ (x1 : Int32) (σ : St), CT shX z.l yX5_sum cX5_sum 5 (some .boolean) (4 * d + 3) (91 * d + 65) emI α D cA [.ref (α 5), .int x1] σ (rec x1 σ)) (σ : St) : RX emI shX α D cA z 3 σ 89 [] [] (f_X5_choice_89 rec σ) := by
  unfold f_X5_choice_89
  refine rx_iconst C dX5_choice_89 ic_0 ?_
  exact RX.loc (w_X5_choice_90 C rec hrec (0 : Int32) σ) [] rfl
set_option maxRecDepth 100000 in
set_option maxHeartbeats 4000000 in
theorem w_X5_choice_e {d : Nat} {α : Nat → Nat} {D : va_G} {cA : Nat → ClassId} {z : Cz} (C : CX shX α D cA z RX5 cX5_choice 3 (some .boolean) (4 * d + 4) (91 * d + 89)) (rec : Int32 → St → Option (Int32 × St)) (hrec : ∀ (x1 : Int32) (σ : St), CT shX z.l yX5_sum cX5_sum 5 (some .boolean) (4 * d + 3) (91 * d + 65) emI α D cA [.ref (α 5), .int x1] σ (rec x1 σ)) (x1 : Int32) (x2 : Int32) (σ : St) : RX emI shX α D cA z 3 σ 0 [(0, .ref (α 5)), (1, .int x1), (2, .int x2)] [] (f_X5_choice rec x1 x2 σ) := by
  unfold f_X5_choice
  refine rx_aload_n C 0 dX5_choice_0 rfl rfl ?_
  refine rx_getC C (k := 0) sx_5 fc_X5 (by decide) 3 rfl lk_X5_9 dX5_choice_1 ?_
  refine rx_callVv C [] [] (m_X6_skip z.l C.inj σ) mv_X6_skip lk_X5_72 sx_3 rfl rfl rfl (Nat.le_of_ble_eq_true rfl) ⟨by omega, by omega⟩ dX5_choice_4 (fun q11 => ?_)
  refine rx_aload_n C 0 dX5_choice_7 rfl rfl ?_
  refine rx_getC C (k := 0) sx_5 fc_X5 (by decide) 3 rfl lk_X5_9 dX5_choice_8 ?_
  refine rx_callVi C [] [] (m_X6_look z.l C.inj q11.2) mv_X6_look lk_X5_28 sx_3 rfl rfl rfl (Nat.le_of_ble_eq_true rfl) ⟨by omega, by omega⟩ dX5_choice_11 (fun q12 => ?_)
  refine rx_bipush C dX5_choice_14 bp_40 ?_
  refine rx_icmp_eq C (tgt := 28) dX5_choice_16 (by decide) (fun _ => ?_) (fun _ => ?_)
  · refine rx_aload_n C 0 dX5_choice_28 rfl rfl ?_
    refine rx_iload_n C 1 dX5_choice_29 rfl rfl ?_
    refine rx_callVi C [.int x1] [] (m_X5_bracket z.l C.inj x1 q12.2) mv_X5_bracket lk_X5_183 sx_5 rfl rfl rfl (Nat.le_of_ble_eq_true rfl) ⟨by omega, by omega⟩ dX5_choice_30 (fun q13 => ?_)
    refine rx_if_eq C (tgt := 89) dX5_choice_33 (by decide) (fun _ => ?_) (fun _ => ?_)
    · exact RX.loc (w_X5_choice_89 C rec hrec q13.2) [] rfl
    · refine rx_aload_n C 0 dX5_choice_36 rfl rfl ?_
      refine rx_iload_n C 1 dX5_choice_37 rfl rfl ?_
      refine rx_iconst C dX5_choice_38 ic_1 ?_
      refine rx_iadd C dX5_choice_39 ?_
      refine rx_callVi C [.int (x1 + (1 : Int32))] [] (hrec (x1 + (1 : Int32)) q13.2) mv_X5_sum lk_X5_151 sx_5 rfl rfl rfl (Nat.le_of_ble_eq_true rfl) ⟨by omega, by omega⟩ dX5_choice_40 (fun q14 => ?_)
      refine rx_if_eq C (tgt := 89) dX5_choice_43 (by decide) (fun _ => ?_) (fun _ => ?_)
      · exact RX.loc (w_X5_choice_89 C rec hrec q14.2) [] rfl
      · refine rx_aload_n C 0 dX5_choice_46 rfl rfl ?_
        refine rx_bipush C dX5_choice_47 bp_44 ?_
        refine rx_callVi C [.int (44 : Int32)] [] (m_X5_token z.l C.inj (44 : Int32) q14.2) mv_X5_token lk_X5_66 sx_5 rfl rfl rfl (Nat.le_of_ble_eq_true rfl) ⟨by omega, by omega⟩ dX5_choice_49 (fun q15 => ?_)
        refine rx_if_eq C (tgt := 89) dX5_choice_52 (by decide) (fun _ => ?_) (fun _ => ?_)
        · exact RX.loc (w_X5_choice_89 C rec hrec q15.2) [] rfl
        · refine rx_aload_n C 0 dX5_choice_55 rfl rfl ?_
          refine rx_iload_n C 1 dX5_choice_56 rfl rfl ?_
          refine rx_iconst C dX5_choice_57 ic_1 ?_
          refine rx_iadd C dX5_choice_58 ?_
          refine rx_callVi C [.int (x1 + (1 : Int32))] [] (hrec (x1 + (1 : Int32)) q15.2) mv_X5_sum lk_X5_151 sx_5 rfl rfl rfl (Nat.le_of_ble_eq_true rfl) ⟨by omega, by omega⟩ dX5_choice_59 (fun q16 => ?_)
          refine rx_if_eq C (tgt := 89) dX5_choice_62 (by decide) (fun _ => ?_) (fun _ => ?_)
          · exact RX.loc (w_X5_choice_89 C rec hrec q16.2) [] rfl
          · refine rx_aload_n C 0 dX5_choice_65 rfl rfl ?_
            refine rx_bipush C dX5_choice_66 bp_41 ?_
            refine rx_callVi C [.int (41 : Int32)] [] (m_X5_token z.l C.inj (41 : Int32) q16.2) mv_X5_token lk_X5_66 sx_5 rfl rfl rfl (Nat.le_of_ble_eq_true rfl) ⟨by omega, by omega⟩ dX5_choice_68 (fun q17 => ?_)
            refine rx_if_eq C (tgt := 89) dX5_choice_71 (by decide) (fun _ => ?_) (fun _ => ?_)
            · exact RX.loc (w_X5_choice_89 C rec hrec q17.2) [] rfl
            · refine rx_aload_n C 0 dX5_choice_74 rfl rfl ?_
              refine rx_getR C (k := 1) sx_5 fc_X5 (by decide) rfl lk_X5_15 dX5_choice_75 ?_
              refine rx_ltr (fun g18 => ?_)
              refine rx_if (fun hg18 => ?_) (fun _ => rx_none)
              refine rx_iload_n C 2 dX5_choice_78 rfl rfl ?_
              refine rx_callVi C [.int x2] [] (m_X4_addCode z.l C.inj g18 (landB_is hg18) x2 q17.2) mv_X4_addCode lk_X5_174 (ld_sh (landB_is hg18)) rfl rfl rfl (Nat.le_of_ble_eq_true rfl) ⟨by omega, by omega⟩ dX5_choice_79 (fun q19 => ?_)
              refine rx_if_eq C (tgt := 89) dX5_choice_82 (by decide) (fun _ => ?_) (fun _ => ?_)
              · exact RX.loc (w_X5_choice_89 C rec hrec q19.2) [] rfl
              · refine rx_iconst C dX5_choice_85 ic_1 ?_
                refine rx_goto C (tgt := 90) dX5_choice_86 (by decide) ?_
                exact RX.loc (w_X5_choice_90 C rec hrec (1 : Int32) q19.2) [] rfl
  · refine rx_aload_n C 0 dX5_choice_19 rfl rfl ?_
    refine rx_getC C (k := 0) sx_5 fc_X5 (by decide) 3 rfl lk_X5_9 dX5_choice_20 ?_
    refine rx_iconst C dX5_choice_23 ic_1 ?_
    refine rx_callVi C [.int (1 : Int32)] [] (m_X6_failHere z.l C.inj (1 : Int32) q12.2) mv_X6_failHere lk_X5_62 sx_3 rfl rfl rfl (Nat.le_of_ble_eq_true rfl) ⟨by omega, by omega⟩ dX5_choice_24 (fun q20 => ?_)
    exact rx_zret C dX5_choice_27
theorem m_X5_choice (l : Launch) {α : Nat → Nat} {D : va_G} {cA : Nat → ClassId} (hin : inj shX.length α) (d : Nat) (rec : Int32 → St → Option (Int32 × St)) (hrec : ∀ (x1 : Int32) (σ : St), CT shX l yX5_sum cX5_sum 5 (some .boolean) (4 * d + 3) (91 * d + 65) emI α D cA [.ref (α 5), .int x1] σ (rec x1 σ)) (x1 : Int32) (x2 : Int32) (σ : St) : CT shX l yX5_choice cX5_choice 3 (some .boolean) (4 * d + 4) (91 * d + 89) emI α D cA [.ref (α 5), .int x1, .int x2] σ (f_X5_choice rec x1 x2 σ) := ct_of rfl (Nat.le_of_ble_eq_true rfl) hin (fun z hz C => w_X5_choice_e C rec (by rw [hz]; exact hrec) x1 x2 σ)
set_option maxRecDepth 100000 in
set_option maxHeartbeats 4000000 in
theorem w_X5_part_166 {d : Nat} {α : Nat → Nat} {D : va_G} {cA : Nat → ClassId} {z : Cz} (C : CX shX α D cA z RX5 cX5_part 2 (some .boolean) (4 * d + 5) (91 * d + 111)) (rec : Int32 → St → Option (Int32 × St)) (hrec : ∀ (x1 : Int32) (σ : St), CT shX z.l yX5_sum cX5_sum 5 (some .boolean) (4 * d + 3) (91 * d + 65) emI α D cA [.ref (α 5), .int x1] σ (rec x1 σ)) (s0 : Int32) (σ : St) : RX emI shX α D cA z 2 σ 166 [] [.int s0] (f_X5_part_166 rec s0 σ) := by
  unfold f_X5_part_166
  exact rx_zret C dX5_part_166
set_option maxRecDepth 100000 in
set_option maxHeartbeats 4000000 in
theorem w_X5_part_165 {d : Nat} {α : Nat → Nat} {D : va_G} {cA : Nat → ClassId} {z : Cz} (C : CX shX α D cA z RX5 cX5_part 2 (some .boolean) (4 * d + 5) (91 * d + 111)) (rec : Int32 → St → Option (Int32 × St)) (hrec : ∀ (x1 : Int32) (σ : St), CT shX z.l yX5_sum cX5_sum 5 (some .boolean) (4 * d + 3) (91 * d + 65) emI α D cA [.ref (α 5), .int x1] σ (rec x1 σ)) (σ : St) : RX emI shX α D cA z 2 σ 165 [] [] (f_X5_part_165 rec σ) := by
  unfold f_X5_part_165
  refine rx_iconst C dX5_part_165 ic_0 ?_
  exact RX.loc (w_X5_part_166 C rec hrec (0 : Int32) σ) [] rfl
set_option maxRecDepth 100000 in
set_option maxHeartbeats 4000000 in
theorem w_X5_part_e {d : Nat} {α : Nat → Nat} {D : va_G} {cA : Nat → ClassId} {z : Cz} (C : CX shX α D cA z RX5 cX5_part 2 (some .boolean) (4 * d + 5) (91 * d + 111)) (rec : Int32 → St → Option (Int32 × St)) (hrec : ∀ (x1 : Int32) (σ : St), CT shX z.l yX5_sum cX5_sum 5 (some .boolean) (4 * d + 3) (91 * d + 65) emI α D cA [.ref (α 5), .int x1] σ (rec x1 σ)) (x1 : Int32) (σ : St) : RX emI shX α D cA z 2 σ 0 [(0, .ref (α 5)), (1, .int x1)] [] (f_X5_part rec x1 σ) := by
  unfold f_X5_part
  refine rx_aload_n C 0 dX5_part_0 rfl rfl ?_
  refine rx_getC C (k := 0) sx_5 fc_X5 (by decide) 3 rfl lk_X5_9 dX5_part_1 ?_
  refine rx_callVi C [] [] (m_X6_look z.l C.inj σ) mv_X6_look lk_X5_28 sx_3 rfl rfl rfl (Nat.le_of_ble_eq_true rfl) ⟨by omega, by omega⟩ dX5_part_4 (fun q23 => ?_)
  refine rx_if (fun hs24 => ?_) (fun hs24 => ?_)
  · refine rx_lookup C (off := 127) (tgt := 134) dX5_part_7 (by decide) (by first | (rw [hs24]; done) | (rw [hs24]; decide)) (by decide) ?_
    refine rx_aload_n C 0 dX5_part_134 rfl rfl ?_
    refine rx_iload_n C 1 dX5_part_135 rfl rfl ?_
    refine rx_callVi C [.int x1] [] (m_X5_bracket z.l C.inj x1 q23.2) mv_X5_bracket lk_X5_183 sx_5 rfl rfl rfl (Nat.le_of_ble_eq_true rfl) ⟨by omega, by omega⟩ dX5_part_136 (fun q25 => ?_)
    refine rx_if_eq C (tgt := 165) dX5_part_139 (by decide) (fun _ => ?_) (fun _ => ?_)
    · exact RX.loc (w_X5_part_165 C rec hrec q25.2) [] rfl
    · refine rx_aload_n C 0 dX5_part_142 rfl rfl ?_
      refine rx_iload_n C 1 dX5_part_143 rfl rfl ?_
      refine rx_iconst C dX5_part_144 ic_1 ?_
      refine rx_iadd C dX5_part_145 ?_
      refine rx_callVi C [.int (x1 + (1 : Int32))] [] (hrec (x1 + (1 : Int32)) q25.2) mv_X5_sum lk_X5_151 sx_5 rfl rfl rfl (Nat.le_of_ble_eq_true rfl) ⟨by omega, by omega⟩ dX5_part_146 (fun q26 => ?_)
      refine rx_if_eq C (tgt := 165) dX5_part_149 (by decide) (fun _ => ?_) (fun _ => ?_)
      · exact RX.loc (w_X5_part_165 C rec hrec q26.2) [] rfl
      · refine rx_aload_n C 0 dX5_part_152 rfl rfl ?_
        refine rx_bipush C dX5_part_153 bp_41 ?_
        refine rx_callVi C [.int (41 : Int32)] [] (m_X5_token z.l C.inj (41 : Int32) q26.2) mv_X5_token lk_X5_66 sx_5 rfl rfl rfl (Nat.le_of_ble_eq_true rfl) ⟨by omega, by omega⟩ dX5_part_155 (fun q27 => ?_)
        refine rx_if_eq C (tgt := 165) dX5_part_158 (by decide) (fun _ => ?_) (fun _ => ?_)
        · exact RX.loc (w_X5_part_165 C rec hrec q27.2) [] rfl
        · refine rx_iconst C dX5_part_161 ic_1 ?_
          refine rx_goto C (tgt := 166) dX5_part_162 (by decide) ?_
          exact RX.loc (w_X5_part_166 C rec hrec (1 : Int32) q27.2) [] rfl
  refine rx_if (fun hs28 => ?_) (fun hs28 => ?_)
  · refine rx_lookup C (off := 81) (tgt := 88) dX5_part_7 (by decide) (by first | (rw [hs28]; done) | (rw [hs28]; decide)) (by decide) ?_
    refine rx_aload_n C 0 dX5_part_88 rfl rfl ?_
    refine rx_aload_n C 0 dX5_part_89 rfl rfl ?_
    refine rx_getC C (k := 0) sx_5 fc_X5 (by decide) 3 rfl lk_X5_9 dX5_part_90 ?_
    refine rx_getI C (k := 6) sx_3 fc_X6 (by decide) rfl lk_X5_116 dX5_part_93 ?_
    refine rx_callVi C [.int (gI q23.2 3 6)] [] (m_X5_step z.l C.inj (gI q23.2 3 6) q23.2) mv_X5_step lk_X5_180 sx_5 rfl rfl rfl (Nat.le_of_ble_eq_true rfl) ⟨by omega, by omega⟩ dX5_part_96 (fun q29 => ?_)
    exact rx_zret C dX5_part_99
  refine rx_if (fun hs30 => ?_) (fun hs30 => ?_)
  · refine rx_lookup C (off := 93) (tgt := 100) dX5_part_7 (by decide) (by first | (rw [hs30]; done) | (rw [hs30]; decide)) (by decide) ?_
    refine rx_aload_n C 0 dX5_part_100 rfl rfl ?_
    refine rx_iconst C dX5_part_101 ic_m1 ?_
    refine rx_callVi C [.int (-1 : Int32)] [] (m_X5_step z.l C.inj (-1 : Int32) q23.2) mv_X5_step lk_X5_180 sx_5 rfl rfl rfl (Nat.le_of_ble_eq_true rfl) ⟨by omega, by omega⟩ dX5_part_102 (fun q31 => ?_)
    exact rx_zret C dX5_part_105
  refine rx_if (fun hs32 => ?_) (fun hs32 => ?_)
  · refine rx_lookup C (off := 113) (tgt := 120) dX5_part_7 (by decide) (by first | (rw [hs32]; done) | (rw [hs32]; decide)) (by decide) ?_
    refine rx_aload_n C 0 dX5_part_120 rfl rfl ?_
    refine rx_bipush C dX5_part_121 bp_m4 ?_
    refine rx_callVi C [.int (-4 : Int32)] [] (m_X5_step z.l C.inj (-4 : Int32) q23.2) mv_X5_step lk_X5_180 sx_5 rfl rfl rfl (Nat.le_of_ble_eq_true rfl) ⟨by omega, by omega⟩ dX5_part_123 (fun q33 => ?_)
    exact rx_zret C dX5_part_126
  refine rx_if (fun hs34 => ?_) (fun hs34 => ?_)
  · refine rx_lookup C (off := 99) (tgt := 106) dX5_part_7 (by decide) (by first | (rw [hs34]; done) | (rw [hs34]; decide)) (by decide) ?_
    refine rx_aload_n C 0 dX5_part_106 rfl rfl ?_
    refine rx_bipush C dX5_part_107 bp_m2 ?_
    refine rx_callVi C [.int (-2 : Int32)] [] (m_X5_step z.l C.inj (-2 : Int32) q23.2) mv_X5_step lk_X5_180 sx_5 rfl rfl rfl (Nat.le_of_ble_eq_true rfl) ⟨by omega, by omega⟩ dX5_part_109 (fun q35 => ?_)
    exact rx_zret C dX5_part_112
  refine rx_if (fun hs36 => ?_) (fun hs36 => ?_)
  · refine rx_lookup C (off := 106) (tgt := 113) dX5_part_7 (by decide) (by first | (rw [hs36]; done) | (rw [hs36]; decide)) (by decide) ?_
    refine rx_aload_n C 0 dX5_part_113 rfl rfl ?_
    refine rx_bipush C dX5_part_114 bp_m3 ?_
    refine rx_callVi C [.int (-3 : Int32)] [] (m_X5_step z.l C.inj (-3 : Int32) q23.2) mv_X5_step lk_X5_180 sx_5 rfl rfl rfl (Nat.le_of_ble_eq_true rfl) ⟨by omega, by omega⟩ dX5_part_116 (fun q37 => ?_)
    exact rx_zret C dX5_part_119
  refine rx_if (fun hs38 => ?_) (fun hs38 => ?_)
  · refine rx_lookup C (off := 120) (tgt := 127) dX5_part_7 (by decide) (by first | (rw [hs38]; done) | (rw [hs38]; decide)) (by decide) ?_
    refine rx_aload_n C 0 dX5_part_127 rfl rfl ?_
    refine rx_bipush C dX5_part_128 bp_m5 ?_
    refine rx_callVi C [.int (-5 : Int32)] [] (m_X5_step z.l C.inj (-5 : Int32) q23.2) mv_X5_step lk_X5_180 sx_5 rfl rfl rfl (Nat.le_of_ble_eq_true rfl) ⟨by omega, by omega⟩ dX5_part_130 (fun q39 => ?_)
    exact rx_zret C dX5_part_133
  refine rx_if (fun hs40 => ?_) (fun hs40 => ?_)
  · refine rx_lookup C (off := 160) (tgt := 167) dX5_part_7 (by decide) (by first | (rw [hs40]; done) | (rw [hs40]; decide)) (by decide) ?_
    refine rx_aload_n C 0 dX5_part_167 rfl rfl ?_
    refine rx_iload_n C 1 dX5_part_168 rfl rfl ?_
    refine rx_bipush C dX5_part_169 bp_m17 ?_
    refine rx_callVi C [.int x1, .int (-17 : Int32)] [] (m_X5_choice z.l C.inj d rec hrec x1 (-17 : Int32) q23.2) mv_X5_choice lk_X5_195 sx_5 rfl rfl rfl (Nat.le_of_ble_eq_true rfl) ⟨by omega, by omega⟩ dX5_part_171 (fun q41 => ?_)
    exact rx_zret C dX5_part_174
  refine rx_if (fun hs42 => ?_) (fun hs42 => ?_)
  · refine rx_lookup C (off := 168) (tgt := 175) dX5_part_7 (by decide) (by first | (rw [hs42]; done) | (rw [hs42]; decide)) (by decide) ?_
    refine rx_aload_n C 0 dX5_part_175 rfl rfl ?_
    refine rx_iload_n C 1 dX5_part_176 rfl rfl ?_
    refine rx_bipush C dX5_part_177 bp_m18 ?_
    refine rx_callVi C [.int x1, .int (-18 : Int32)] [] (m_X5_choice z.l C.inj d rec hrec x1 (-18 : Int32) q23.2) mv_X5_choice lk_X5_195 sx_5 rfl rfl rfl (Nat.le_of_ble_eq_true rfl) ⟨by omega, by omega⟩ dX5_part_179 (fun q43 => ?_)
    exact rx_zret C dX5_part_182
  refine rx_lookup C (off := 176) (tgt := 183) dX5_part_7 (by decide) (by show Op.lookupswitch.offset [(40, 127), (301, 81), (401, 93), (406, 113), (418, 99), (419, 106), (420, 120), (421, 160), (422, 168)] 176 _ = _; rw [lv_osw hs24 (by decide), lv_osw hs28 (by decide), lv_osw hs30 (by decide), lv_osw hs32 (by decide), lv_osw hs34 (by decide), lv_osw hs36 (by decide), lv_osw hs38 (by decide), lv_osw hs40 (by decide), lv_osw hs42 (by decide)]; try rfl) (by decide) ?_
  refine rx_aload_n C 0 dX5_part_183 rfl rfl ?_
  refine rx_getC C (k := 0) sx_5 fc_X5 (by decide) 3 rfl lk_X5_9 dX5_part_184 ?_
  refine rx_iconst C dX5_part_187 ic_1 ?_
  refine rx_callVi C [.int (1 : Int32)] [] (m_X6_failHere z.l C.inj (1 : Int32) q23.2) mv_X6_failHere lk_X5_62 sx_3 rfl rfl rfl (Nat.le_of_ble_eq_true rfl) ⟨by omega, by omega⟩ dX5_part_188 (fun q44 => ?_)
  exact rx_zret C dX5_part_191
theorem m_X5_part (l : Launch) {α : Nat → Nat} {D : va_G} {cA : Nat → ClassId} (hin : inj shX.length α) (d : Nat) (rec : Int32 → St → Option (Int32 × St)) (hrec : ∀ (x1 : Int32) (σ : St), CT shX l yX5_sum cX5_sum 5 (some .boolean) (4 * d + 3) (91 * d + 65) emI α D cA [.ref (α 5), .int x1] σ (rec x1 σ)) (x1 : Int32) (σ : St) : CT shX l yX5_part cX5_part 2 (some .boolean) (4 * d + 5) (91 * d + 111) emI α D cA [.ref (α 5), .int x1] σ (f_X5_part rec x1 σ) := ct_of rfl (Nat.le_of_ble_eq_true rfl) hin (fun z hz C => w_X5_part_e C rec (by rw [hz]; exact hrec) x1 σ)
set_option maxRecDepth 100000 in
set_option maxHeartbeats 4000000 in
theorem w_X5_product_126 {d : Nat} {α : Nat → Nat} {D : va_G} {cA : Nat → ClassId} {z : Cz} (C : CX shX α D cA z RX5 cX5_product 5 (some .boolean) (4 * d + 6) (91 * d + 132)) (rec : Int32 → St → Option (Int32 × St)) (hrec : ∀ (x1 : Int32) (σ : St), CT shX z.l yX5_sum cX5_sum 5 (some .boolean) (4 * d + 3) (91 * d + 65) emI α D cA [.ref (α 5), .int x1] σ (rec x1 σ)) (x2 : Int32) (σ : St) : RX emI shX α D cA z 5 σ 126 [(2, .int x2)] [] (f_X5_product_126 rec x2 σ) := by
  unfold f_X5_product_126
  refine rx_iload_n C 0 dX5_product_126 rfl rfl ?_
  exact rx_zret C dX5_product_127
set_option maxRecDepth 100000 in
set_option maxHeartbeats 4000000 in
theorem w_X5_product_119 {d : Nat} {α : Nat → Nat} {D : va_G} {cA : Nat → ClassId} {z : Cz} (C : CX shX α D cA z RX5 cX5_product 5 (some .boolean) (4 * d + 6) (91 * d + 132)) (rec : Int32 → St → Option (Int32 × St)) (hrec : ∀ (x1 : Int32) (σ : St), CT shX z.l yX5_sum cX5_sum 5 (some .boolean) (4 * d + 3) (91 * d + 65) emI α D cA [.ref (α 5), .int x1] σ (rec x1 σ)) (k_8 : Int32 → Int32 → Int32 → St → Option (Int32 × St)) (hk_8 : ∀ (x1 : Int32) (x2 : Int32) (x3 : Int32) (σ : St), RX emI shX α D cA z 5 σ 8 [(0, .ref (α 5)), (1, .int x1), (2, .int x2), (3, .int x3)] [] (k_8 x1 x2 x3 σ)) (x1 : Int32) (x3 : Int32) (s0 : Int32) (σ : St) : RX emI shX α D cA z 5 σ 119 [(0, .ref (α 5)), (1, .int x1), (3, .int x3)] [.int s0] (f_X5_product_119 rec k_8 x1 x3 s0 σ) := by
  unfold f_X5_product_119
  refine rx_istore_n C [(2, .int s0), (0, .ref (α 5)), (1, .int x1), (3, .int x3)] dX5_product_119 rfl (by decide) rfl ?_
  refine rx_iinc C (k0 := 3) (v := x3 + (1 : Int32)) [(3, .int (x3 + (1 : Int32))), (2, .int s0), (0, .ref (α 5)), (1, .int x1)] dX5_product_120 rfl (congrArg _ ic_1) (by decide) rfl ?_
  refine rx_goto C (tgt := 8) dX5_product_123 (by decide) ?_
  exact RX.loc (hk_8 x1 s0 (x3 + (1 : Int32)) σ) [2, 3, 1, 0] rfl
set_option maxRecDepth 100000 in
set_option maxHeartbeats 4000000 in
theorem w_X5_product_118 {d : Nat} {α : Nat → Nat} {D : va_G} {cA : Nat → ClassId} {z : Cz} (C : CX shX α D cA z RX5 cX5_product 5 (some .boolean) (4 * d + 6) (91 * d + 132)) (rec : Int32 → St → Option (Int32 × St)) (hrec : ∀ (x1 : Int32) (σ : St), CT shX z.l yX5_sum cX5_sum 5 (some .boolean) (4 * d + 3) (91 * d + 65) emI α D cA [.ref (α 5), .int x1] σ (rec x1 σ)) (k_8 : Int32 → Int32 → Int32 → St → Option (Int32 × St)) (hk_8 : ∀ (x1 : Int32) (x2 : Int32) (x3 : Int32) (σ : St), RX emI shX α D cA z 5 σ 8 [(0, .ref (α 5)), (1, .int x1), (2, .int x2), (3, .int x3)] [] (k_8 x1 x2 x3 σ)) (x1 : Int32) (x3 : Int32) (σ : St) : RX emI shX α D cA z 5 σ 118 [(0, .ref (α 5)), (1, .int x1), (3, .int x3)] [] (f_X5_product_118 rec k_8 x1 x3 σ) := by
  unfold f_X5_product_118
  refine rx_iconst C dX5_product_118 ic_0 ?_
  exact RX.loc (w_X5_product_119 C rec hrec k_8 hk_8 x1 x3 (0 : Int32) σ) [0, 1, 2] rfl
set_option maxRecDepth 100000 in
set_option maxHeartbeats 4000000 in
theorem w_X5_product_87 {d : Nat} {α : Nat → Nat} {D : va_G} {cA : Nat → ClassId} {z : Cz} (C : CX shX α D cA z RX5 cX5_product 5 (some .boolean) (4 * d + 6) (91 * d + 132)) (rec : Int32 → St → Option (Int32 × St)) (hrec : ∀ (x1 : Int32) (σ : St), CT shX z.l yX5_sum cX5_sum 5 (some .boolean) (4 * d + 3) (91 * d + 65) emI α D cA [.ref (α 5), .int x1] σ (rec x1 σ)) (k_8 : Int32 → Int32 → Int32 → St → Option (Int32 × St)) (hk_8 : ∀ (x1 : Int32) (x2 : Int32) (x3 : Int32) (σ : St), RX emI shX α D cA z 5 σ 8 [(0, .ref (α 5)), (1, .int x1), (2, .int x2), (3, .int x3)] [] (k_8 x1 x2 x3 σ)) (x1 : Int32) (x3 : Int32) (x4 : Int32) (σ : St) : RX emI shX α D cA z 5 σ 87 [(0, .ref (α 5)), (1, .int x1), (3, .int x3), (4, .int x4)] [] (f_X5_product_87 rec k_8 x1 x3 x4 σ) := by
  unfold f_X5_product_87
  refine rx_aload_n C 0 dX5_product_87 rfl rfl ?_
  refine rx_getC C (k := 0) sx_5 fc_X5 (by decide) 3 rfl lk_X5_9 dX5_product_88 ?_
  refine rx_callVv C [] [] (m_X6_skip z.l C.inj σ) mv_X6_skip lk_X5_72 sx_3 rfl rfl rfl (Nat.le_of_ble_eq_true rfl) ⟨by omega, by omega⟩ dX5_product_91 (fun q13 => ?_)
  refine rx_aload_n C 0 dX5_product_94 rfl rfl ?_
  refine rx_iload_n C 1 dX5_product_95 rfl rfl ?_
  refine rx_callVi C [.int x1] [] (m_X5_part z.l C.inj d rec hrec x1 q13.2) mv_X5_part lk_X5_192 sx_5 rfl rfl rfl (Nat.le_of_ble_eq_true rfl) ⟨by omega, by omega⟩ dX5_product_96 (fun q14 => ?_)
  refine rx_if_eq C (tgt := 118) dX5_product_99 (by decide) (fun _ => ?_) (fun _ => ?_)
  · exact RX.loc (w_X5_product_118 C rec hrec k_8 hk_8 x1 x3 q14.2) [0, 1, 2] rfl
  · refine rx_aload_n C 0 dX5_product_102 rfl rfl ?_
    refine rx_getR C (k := 1) sx_5 fc_X5 (by decide) rfl lk_X5_15 dX5_product_103 ?_
    refine rx_ltr (fun g15 => ?_)
    refine rx_if (fun hg15 => ?_) (fun _ => rx_none)
    refine rx_iload C 3 dX5_product_106 rfl ?_
    refine rx_callVi C [.int x4] [] (m_X4_addCode z.l C.inj g15 (landB_is hg15) x4 q14.2) mv_X4_addCode lk_X5_174 (ld_sh (landB_is hg15)) rfl rfl rfl (Nat.le_of_ble_eq_true rfl) ⟨by omega, by omega⟩ dX5_product_108 (fun q16 => ?_)
    refine rx_if_eq C (tgt := 118) dX5_product_111 (by decide) (fun _ => ?_) (fun _ => ?_)
    · exact RX.loc (w_X5_product_118 C rec hrec k_8 hk_8 x1 x3 q16.2) [0, 1, 2] rfl
    · refine rx_iconst C dX5_product_114 ic_1 ?_
      refine rx_goto C (tgt := 119) dX5_product_115 (by decide) ?_
      exact RX.loc (w_X5_product_119 C rec hrec k_8 hk_8 x1 x3 (1 : Int32) q16.2) [0, 1, 2] rfl
set_option maxRecDepth 100000 in
set_option maxHeartbeats 4000000 in
theorem w_X5_product_8 {d : Nat} {α : Nat → Nat} {D : va_G} {cA : Nat → ClassId} {z : Cz} (C : CX shX α D cA z RX5 cX5_product 5 (some .boolean) (4 * d + 6) (91 * d + 132)) (rec : Int32 → St → Option (Int32 × St)) (hrec : ∀ (x1 : Int32) (σ : St), CT shX z.l yX5_sum cX5_sum 5 (some .boolean) (4 * d + 3) (91 * d + 65) emI α D cA [.ref (α 5), .int x1] σ (rec x1 σ)) : ∀ (n : Nat) (x1 : Int32) (x2 : Int32) (x3 : Int32) (σ : St), RX emI shX α D cA z 5 σ 8 [(0, .ref (α 5)), (1, .int x1), (2, .int x2), (3, .int x3)] [] (f_X5_product_8 rec n x1 x2 x3 σ) := by
  intro n
  induction n with
  | zero => intros; exact rx_none
  | succ n hk_8 =>
    intro x1 x2 x3 σ
    rw [f_X5_product_8.eq_2]
    refine rx_iload_n C 3 dX5_product_8 rfl rfl ?_
    refine rx_sipush C dX5_product_9 sp_1600 ?_
    refine rx_icmp_ge C (tgt := 126) dX5_product_12 (by decide) (fun _ => ?_) (fun _ => ?_)
    · exact RX.loc (w_X5_product_126 C rec hrec x2 σ) [2] rfl
    · refine rx_iload_n C 2 dX5_product_15 rfl rfl ?_
      refine rx_if_eq C (tgt := 126) dX5_product_16 (by decide) (fun _ => ?_) (fun _ => ?_)
      · exact RX.loc (w_X5_product_126 C rec hrec x2 σ) [2] rfl
      · refine rx_iconst C dX5_product_19 ic_0 ?_
        refine rx_istore C [(4, .int (0 : Int32)), (0, .ref (α 5)), (1, .int x1), (2, .int x2), (3, .int x3)] dX5_product_20 (by decide) rfl ?_
        refine rx_aload_n C 1 dX5_product_22 rfl rfl ?_
        refine rx_getC C (k := 0) sx_5 fc_X5 (by decide) 3 rfl lk_X5_9 dX5_product_23 ?_
        refine rx_callVi C [] [] (m_X6_look z.l C.inj σ) mv_X6_look lk_X5_28 sx_3 rfl rfl rfl (Nat.le_of_ble_eq_true rfl) ⟨by omega, by omega⟩ dX5_product_26 (fun q11 => ?_)
        refine rx_if (fun hs12 => ?_) (fun hs12 => ?_)
        · refine rx_lookup C (off := 49) (tgt := 78) dX5_product_29 (by decide) (by first | (rw [hs12]; done) | (rw [hs12]; decide)) (by decide) ?_
          refine rx_bipush C dX5_product_78 bp_m16 ?_
          refine rx_istore C [(4, .int (-16 : Int32)), (0, .ref (α 5)), (1, .int x1), (2, .int x2), (3, .int x3)] dX5_product_80 (by decide) rfl ?_
          refine rx_goto C (tgt := 87) dX5_product_82 (by decide) ?_
          exact RX.loc (w_X5_product_87 C rec hrec (f_X5_product_8 rec n) hk_8 x1 x3 (-16 : Int32) q11.2) [1, 2, 4, 0] rfl
        refine rx_if (fun hs17 => ?_) (fun hs17 => ?_)
        · refine rx_lookup C (off := 35) (tgt := 64) dX5_product_29 (by decide) (by first | (rw [hs17]; done) | (rw [hs17]; decide)) (by decide) ?_
          refine rx_bipush C dX5_product_64 bp_m14 ?_
          refine rx_istore C [(4, .int (-14 : Int32)), (0, .ref (α 5)), (1, .int x1), (2, .int x2), (3, .int x3)] dX5_product_66 (by decide) rfl ?_
          refine rx_goto C (tgt := 87) dX5_product_68 (by decide) ?_
          exact RX.loc (w_X5_product_87 C rec hrec (f_X5_product_8 rec n) hk_8 x1 x3 (-14 : Int32) q11.2) [1, 2, 4, 0] rfl
        refine rx_if (fun hs18 => ?_) (fun hs18 => ?_)
        · refine rx_lookup C (off := 42) (tgt := 71) dX5_product_29 (by decide) (by first | (rw [hs18]; done) | (rw [hs18]; decide)) (by decide) ?_
          refine rx_bipush C dX5_product_71 bp_m15 ?_
          refine rx_istore C [(4, .int (-15 : Int32)), (0, .ref (α 5)), (1, .int x1), (2, .int x2), (3, .int x3)] dX5_product_73 (by decide) rfl ?_
          refine rx_goto C (tgt := 87) dX5_product_75 (by decide) ?_
          exact RX.loc (w_X5_product_87 C rec hrec (f_X5_product_8 rec n) hk_8 x1 x3 (-15 : Int32) q11.2) [1, 2, 4, 0] rfl
        refine rx_lookup C (off := 56) (tgt := 85) dX5_product_29 (by decide) (by show Op.lookupswitch.offset [(37, 49), (42, 35), (47, 42)] 56 _ = _; rw [lv_osw hs12 (by decide), lv_osw hs17 (by decide), lv_osw hs18 (by decide)]; try rfl) (by decide) ?_
        refine rx_iconst C dX5_product_85 ic_1 ?_
        exact rx_zretC C dX5_product_86 rfl
set_option maxRecDepth 100000 in
set_option maxHeartbeats 4000000 in
theorem w_X5_product_e {d : Nat} {α : Nat → Nat} {D : va_G} {cA : Nat → ClassId} {z : Cz} (C : CX shX α D cA z RX5 cX5_product 5 (some .boolean) (4 * d + 6) (91 * d + 132)) (rec : Int32 → St → Option (Int32 × St)) (hrec : ∀ (x1 : Int32) (σ : St), CT shX z.l yX5_sum cX5_sum 5 (some .boolean) (4 * d + 3) (91 * d + 65) emI α D cA [.ref (α 5), .int x1] σ (rec x1 σ)) (x1 : Int32) (σ : St) : RX emI shX α D cA z 5 σ 0 [(0, .ref (α 5)), (1, .int x1)] [] (f_X5_product rec x1 σ) := by
  unfold f_X5_product
  refine rx_aload_n C 0 dX5_product_0 rfl rfl ?_
  refine rx_iload_n C 1 dX5_product_1 rfl rfl ?_
  refine rx_callVi C [.int x1] [] (m_X5_part z.l C.inj d rec hrec x1 σ) mv_X5_part lk_X5_192 sx_5 rfl rfl rfl (Nat.le_of_ble_eq_true rfl) ⟨by omega, by omega⟩ dX5_product_2 (fun q10 => ?_)
  refine rx_istore_n C [(2, .int q10.1), (0, .ref (α 5)), (1, .int x1)] dX5_product_5 rfl (by decide) rfl ?_
  refine rx_iconst C dX5_product_6 ic_0 ?_
  refine rx_istore_n C [(3, .int (0 : Int32)), (2, .int q10.1), (0, .ref (α 5)), (1, .int x1)] dX5_product_7 rfl (by decide) rfl ?_
  exact RX.loc (w_X5_product_8 C rec hrec FU x1 q10.1 (0 : Int32) q10.2) [2, 3, 1, 0] rfl
theorem m_X5_product (l : Launch) {α : Nat → Nat} {D : va_G} {cA : Nat → ClassId} (hin : inj shX.length α) (d : Nat) (rec : Int32 → St → Option (Int32 × St)) (hrec : ∀ (x1 : Int32) (σ : St), CT shX l yX5_sum cX5_sum 5 (some .boolean) (4 * d + 3) (91 * d + 65) emI α D cA [.ref (α 5), .int x1] σ (rec x1 σ)) (x1 : Int32) (σ : St) : CT shX l yX5_product cX5_product 5 (some .boolean) (4 * d + 6) (91 * d + 132) emI α D cA [.ref (α 5), .int x1] σ (f_X5_product rec x1 σ) := ct_of rfl (Nat.le_of_ble_eq_true rfl) hin (fun z hz C => w_X5_product_e C rec (by rw [hz]; exact hrec) x1 σ)
set_option maxRecDepth 100000 in
set_option maxHeartbeats 4000000 in
theorem w_X5_sum_111 {d : Nat} {α : Nat → Nat} {D : va_G} {cA : Nat → ClassId} {z : Cz} (C : CX shX α D cA z RX5 cX5_sum 5 (some .boolean) (4 * d + 7) (91 * d + 156)) (rec : Int32 → St → Option (Int32 × St)) (hrec : ∀ (x1 : Int32) (σ : St), CT shX z.l yX5_sum cX5_sum 5 (some .boolean) (4 * d + 3) (91 * d + 65) emI α D cA [.ref (α 5), .int x1] σ (rec x1 σ)) (x2 : Int32) (σ : St) : RX emI shX α D cA z 5 σ 111 [(2, .int x2)] [] (f_X5_sum_111 rec x2 σ) := by
  unfold f_X5_sum_111
  refine rx_iload_n C 0 dX5_sum_111 rfl rfl ?_
  exact rx_zret C dX5_sum_112
set_option maxRecDepth 100000 in
set_option maxHeartbeats 4000000 in
theorem w_X5_sum_104 {d : Nat} {α : Nat → Nat} {D : va_G} {cA : Nat → ClassId} {z : Cz} (C : CX shX α D cA z RX5 cX5_sum 5 (some .boolean) (4 * d + 7) (91 * d + 156)) (rec : Int32 → St → Option (Int32 × St)) (hrec : ∀ (x1 : Int32) (σ : St), CT shX z.l yX5_sum cX5_sum 5 (some .boolean) (4 * d + 3) (91 * d + 65) emI α D cA [.ref (α 5), .int x1] σ (rec x1 σ)) (k_8 : Int32 → Int32 → Int32 → St → Option (Int32 × St)) (hk_8 : ∀ (x1 : Int32) (x2 : Int32) (x3 : Int32) (σ : St), RX emI shX α D cA z 5 σ 8 [(0, .ref (α 5)), (1, .int x1), (2, .int x2), (3, .int x3)] [] (k_8 x1 x2 x3 σ)) (x1 : Int32) (x3 : Int32) (s0 : Int32) (σ : St) : RX emI shX α D cA z 5 σ 104 [(0, .ref (α 5)), (1, .int x1), (3, .int x3)] [.int s0] (f_X5_sum_104 rec k_8 x1 x3 s0 σ) := by
  unfold f_X5_sum_104
  refine rx_istore_n C [(2, .int s0), (0, .ref (α 5)), (1, .int x1), (3, .int x3)] dX5_sum_104 rfl (by decide) rfl ?_
  refine rx_iinc C (k0 := 3) (v := x3 + (1 : Int32)) [(3, .int (x3 + (1 : Int32))), (2, .int s0), (0, .ref (α 5)), (1, .int x1)] dX5_sum_105 rfl (congrArg _ ic_1) (by decide) rfl ?_
  refine rx_goto C (tgt := 8) dX5_sum_108 (by decide) ?_
  exact RX.loc (hk_8 x1 s0 (x3 + (1 : Int32)) σ) [2, 3, 1, 0] rfl
set_option maxRecDepth 100000 in
set_option maxHeartbeats 4000000 in
theorem w_X5_sum_103 {d : Nat} {α : Nat → Nat} {D : va_G} {cA : Nat → ClassId} {z : Cz} (C : CX shX α D cA z RX5 cX5_sum 5 (some .boolean) (4 * d + 7) (91 * d + 156)) (rec : Int32 → St → Option (Int32 × St)) (hrec : ∀ (x1 : Int32) (σ : St), CT shX z.l yX5_sum cX5_sum 5 (some .boolean) (4 * d + 3) (91 * d + 65) emI α D cA [.ref (α 5), .int x1] σ (rec x1 σ)) (k_8 : Int32 → Int32 → Int32 → St → Option (Int32 × St)) (hk_8 : ∀ (x1 : Int32) (x2 : Int32) (x3 : Int32) (σ : St), RX emI shX α D cA z 5 σ 8 [(0, .ref (α 5)), (1, .int x1), (2, .int x2), (3, .int x3)] [] (k_8 x1 x2 x3 σ)) (x1 : Int32) (x3 : Int32) (σ : St) : RX emI shX α D cA z 5 σ 103 [(0, .ref (α 5)), (1, .int x1), (3, .int x3)] [] (f_X5_sum_103 rec k_8 x1 x3 σ) := by
  unfold f_X5_sum_103
  refine rx_iconst C dX5_sum_103 ic_0 ?_
  exact RX.loc (w_X5_sum_104 C rec hrec k_8 hk_8 x1 x3 (0 : Int32) σ) [0, 1, 2] rfl
set_option maxRecDepth 100000 in
set_option maxHeartbeats 4000000 in
theorem w_X5_sum_72 {d : Nat} {α : Nat → Nat} {D : va_G} {cA : Nat → ClassId} {z : Cz} (C : CX shX α D cA z RX5 cX5_sum 5 (some .boolean) (4 * d + 7) (91 * d + 156)) (rec : Int32 → St → Option (Int32 × St)) (hrec : ∀ (x1 : Int32) (σ : St), CT shX z.l yX5_sum cX5_sum 5 (some .boolean) (4 * d + 3) (91 * d + 65) emI α D cA [.ref (α 5), .int x1] σ (rec x1 σ)) (k_8 : Int32 → Int32 → Int32 → St → Option (Int32 × St)) (hk_8 : ∀ (x1 : Int32) (x2 : Int32) (x3 : Int32) (σ : St), RX emI shX α D cA z 5 σ 8 [(0, .ref (α 5)), (1, .int x1), (2, .int x2), (3, .int x3)] [] (k_8 x1 x2 x3 σ)) (x1 : Int32) (x3 : Int32) (x4 : Int32) (σ : St) : RX emI shX α D cA z 5 σ 72 [(0, .ref (α 5)), (1, .int x1), (3, .int x3), (4, .int x4)] [] (f_X5_sum_72 rec k_8 x1 x3 x4 σ) := by
  unfold f_X5_sum_72
  refine rx_aload_n C 0 dX5_sum_72 rfl rfl ?_
  refine rx_getC C (k := 0) sx_5 fc_X5 (by decide) 3 rfl lk_X5_9 dX5_sum_73 ?_
  refine rx_callVv C [] [] (m_X6_skip z.l C.inj σ) mv_X6_skip lk_X5_72 sx_3 rfl rfl rfl (Nat.le_of_ble_eq_true rfl) ⟨by omega, by omega⟩ dX5_sum_76 (fun q12 => ?_)
  refine rx_aload_n C 0 dX5_sum_79 rfl rfl ?_
  refine rx_iload_n C 1 dX5_sum_80 rfl rfl ?_
  refine rx_callVi C [.int x1] [] (m_X5_product z.l C.inj d rec hrec x1 q12.2) mv_X5_product lk_X5_189 sx_5 rfl rfl rfl (Nat.le_of_ble_eq_true rfl) ⟨by omega, by omega⟩ dX5_sum_81 (fun q13 => ?_)
  refine rx_if_eq C (tgt := 103) dX5_sum_84 (by decide) (fun _ => ?_) (fun _ => ?_)
  · exact RX.loc (w_X5_sum_103 C rec hrec k_8 hk_8 x1 x3 q13.2) [0, 1, 2] rfl
  · refine rx_aload_n C 0 dX5_sum_87 rfl rfl ?_
    refine rx_getR C (k := 1) sx_5 fc_X5 (by decide) rfl lk_X5_15 dX5_sum_88 ?_
    refine rx_ltr (fun g14 => ?_)
    refine rx_if (fun hg14 => ?_) (fun _ => rx_none)
    refine rx_iload C 3 dX5_sum_91 rfl ?_
    refine rx_callVi C [.int x4] [] (m_X4_addCode z.l C.inj g14 (landB_is hg14) x4 q13.2) mv_X4_addCode lk_X5_174 (ld_sh (landB_is hg14)) rfl rfl rfl (Nat.le_of_ble_eq_true rfl) ⟨by omega, by omega⟩ dX5_sum_93 (fun q15 => ?_)
    refine rx_if_eq C (tgt := 103) dX5_sum_96 (by decide) (fun _ => ?_) (fun _ => ?_)
    · exact RX.loc (w_X5_sum_103 C rec hrec k_8 hk_8 x1 x3 q15.2) [0, 1, 2] rfl
    · refine rx_iconst C dX5_sum_99 ic_1 ?_
      refine rx_goto C (tgt := 104) dX5_sum_100 (by decide) ?_
      exact RX.loc (w_X5_sum_104 C rec hrec k_8 hk_8 x1 x3 (1 : Int32) q15.2) [0, 1, 2] rfl
set_option maxRecDepth 100000 in
set_option maxHeartbeats 4000000 in
theorem w_X5_sum_8 {d : Nat} {α : Nat → Nat} {D : va_G} {cA : Nat → ClassId} {z : Cz} (C : CX shX α D cA z RX5 cX5_sum 5 (some .boolean) (4 * d + 7) (91 * d + 156)) (rec : Int32 → St → Option (Int32 × St)) (hrec : ∀ (x1 : Int32) (σ : St), CT shX z.l yX5_sum cX5_sum 5 (some .boolean) (4 * d + 3) (91 * d + 65) emI α D cA [.ref (α 5), .int x1] σ (rec x1 σ)) : ∀ (n : Nat) (x1 : Int32) (x2 : Int32) (x3 : Int32) (σ : St), RX emI shX α D cA z 5 σ 8 [(0, .ref (α 5)), (1, .int x1), (2, .int x2), (3, .int x3)] [] (f_X5_sum_8 rec n x1 x2 x3 σ) := by
  intro n
  induction n with
  | zero => intros; exact rx_none
  | succ n hk_8 =>
    intro x1 x2 x3 σ
    rw [f_X5_sum_8.eq_2]
    refine rx_iload_n C 3 dX5_sum_8 rfl rfl ?_
    refine rx_sipush C dX5_sum_9 sp_1600 ?_
    refine rx_icmp_ge C (tgt := 111) dX5_sum_12 (by decide) (fun _ => ?_) (fun _ => ?_)
    · exact RX.loc (w_X5_sum_111 C rec hrec x2 σ) [2] rfl
    · refine rx_iload_n C 2 dX5_sum_15 rfl rfl ?_
      refine rx_if_eq C (tgt := 111) dX5_sum_16 (by decide) (fun _ => ?_) (fun _ => ?_)
      · exact RX.loc (w_X5_sum_111 C rec hrec x2 σ) [2] rfl
      · refine rx_iconst C dX5_sum_19 ic_0 ?_
        refine rx_istore C [(4, .int (0 : Int32)), (0, .ref (α 5)), (1, .int x1), (2, .int x2), (3, .int x3)] dX5_sum_20 (by decide) rfl ?_
        refine rx_aload_n C 1 dX5_sum_22 rfl rfl ?_
        refine rx_getC C (k := 0) sx_5 fc_X5 (by decide) 3 rfl lk_X5_9 dX5_sum_23 ?_
        refine rx_callVi C [] [] (m_X6_look z.l C.inj σ) mv_X6_look lk_X5_28 sx_3 rfl rfl rfl (Nat.le_of_ble_eq_true rfl) ⟨by omega, by omega⟩ dX5_sum_26 (fun q10 => ?_)
        refine rx_if (fun hs11 => ?_) (fun hs11 => ?_)
        · refine rx_lookup C (off := 27) (tgt := 56) dX5_sum_29 (by decide) (by first | (rw [hs11]; done) | (rw [hs11]; decide)) (by decide) ?_
          refine rx_bipush C dX5_sum_56 bp_m12 ?_
          refine rx_istore C [(4, .int (-12 : Int32)), (0, .ref (α 5)), (1, .int x1), (2, .int x2), (3, .int x3)] dX5_sum_58 (by decide) rfl ?_
          refine rx_goto C (tgt := 72) dX5_sum_60 (by decide) ?_
          exact RX.loc (w_X5_sum_72 C rec hrec (f_X5_sum_8 rec n) hk_8 x1 x3 (-12 : Int32) q10.2) [1, 2, 4, 0] rfl
        refine rx_if (fun hs16 => ?_) (fun hs16 => ?_)
        · refine rx_lookup C (off := 34) (tgt := 63) dX5_sum_29 (by decide) (by first | (rw [hs16]; done) | (rw [hs16]; decide)) (by decide) ?_
          refine rx_bipush C dX5_sum_63 bp_m13 ?_
          refine rx_istore C [(4, .int (-13 : Int32)), (0, .ref (α 5)), (1, .int x1), (2, .int x2), (3, .int x3)] dX5_sum_65 (by decide) rfl ?_
          refine rx_goto C (tgt := 72) dX5_sum_67 (by decide) ?_
          exact RX.loc (w_X5_sum_72 C rec hrec (f_X5_sum_8 rec n) hk_8 x1 x3 (-13 : Int32) q10.2) [1, 2, 4, 0] rfl
        refine rx_lookup C (off := 41) (tgt := 70) dX5_sum_29 (by decide) (by show Op.lookupswitch.offset [(43, 27), (45, 34)] 41 _ = _; rw [lv_osw hs11 (by decide), lv_osw hs16 (by decide)]; try rfl) (by decide) ?_
        refine rx_iconst C dX5_sum_70 ic_1 ?_
        exact rx_zretC C dX5_sum_71 rfl
set_option maxRecDepth 100000 in
set_option maxHeartbeats 4000000 in
theorem w_X5_sum_e {d : Nat} {α : Nat → Nat} {D : va_G} {cA : Nat → ClassId} {z : Cz} (C : CX shX α D cA z RX5 cX5_sum 5 (some .boolean) (4 * d + 7) (91 * d + 156)) (rec : Int32 → St → Option (Int32 × St)) (hrec : ∀ (x1 : Int32) (σ : St), CT shX z.l yX5_sum cX5_sum 5 (some .boolean) (4 * d + 3) (91 * d + 65) emI α D cA [.ref (α 5), .int x1] σ (rec x1 σ)) (x1 : Int32) (σ : St) : RX emI shX α D cA z 5 σ 0 [(0, .ref (α 5)), (1, .int x1)] [] (fb_X5_sum rec x1 σ) := by
  unfold fb_X5_sum
  refine rx_aload_n C 0 dX5_sum_0 rfl rfl ?_
  refine rx_iload_n C 1 dX5_sum_1 rfl rfl ?_
  refine rx_callVi C [.int x1] [] (m_X5_product z.l C.inj d rec hrec x1 σ) mv_X5_product lk_X5_189 sx_5 rfl rfl rfl (Nat.le_of_ble_eq_true rfl) ⟨by omega, by omega⟩ dX5_sum_2 (fun q9 => ?_)
  refine rx_istore_n C [(2, .int q9.1), (0, .ref (α 5)), (1, .int x1)] dX5_sum_5 rfl (by decide) rfl ?_
  refine rx_iconst C dX5_sum_6 ic_0 ?_
  refine rx_istore_n C [(3, .int (0 : Int32)), (2, .int q9.1), (0, .ref (α 5)), (1, .int x1)] dX5_sum_7 rfl (by decide) rfl ?_
  exact RX.loc (w_X5_sum_8 C rec hrec FU x1 q9.1 (0 : Int32) q9.2) [2, 3, 1, 0] rfl
theorem m_X5_sum (l : Launch) {α : Nat → Nat} {D : va_G} {cA : Nat → ClassId} (hin : inj shX.length α) (d : Nat) : ∀ (x1 : Int32) (σ : St), CT shX l yX5_sum cX5_sum 5 (some .boolean) (4 * d + 3) (91 * d + 65) emI α D cA [.ref (α 5), .int x1] σ (f_X5_sum d x1 σ) := by
  induction d with
  | zero => intro x1 σ r σ1 e; cases e
  | succ d ih =>
    intro x1 σ
    exact ct_of rfl (Nat.le_of_ble_eq_true rfl) hin (fun z hz C => w_X5_sum_e (d := d) (C.wider (by omega) (by omega)) (f_X5_sum d) (by rw [hz]; exact ih) x1 σ)
set_option maxRecDepth 100000 in
set_option maxHeartbeats 4000000 in
theorem w_X5_comparisonSign_63 {α : Nat → Nat} {D : va_G} {cA : Nat → ClassId} {z : Cz} (C : CX shX α D cA z RX5 cX5_comparisonSign 2 (some .int) 2 44) (x1 : Int32) (σ : St) : RX emI shX α D cA z 2 σ 63 [(0, .ref (α 5)), (1, .int x1)] [] (f_X5_comparisonSign_63 x1 σ) := by
  unfold f_X5_comparisonSign_63
  refine rx_aload_n C 0 dX5_comparisonSign_63 rfl rfl ?_
  refine rx_getC C (k := 0) sx_5 fc_X5 (by decide) 3 rfl lk_X5_9 dX5_comparisonSign_64 ?_
  refine rx_callVv C [] [] (m_X6_skip z.l C.inj σ) mv_X6_skip lk_X5_72 sx_3 rfl rfl rfl (Nat.le_of_ble_eq_true rfl) ⟨Nat.le_of_ble_eq_true rfl, Nat.le_of_ble_eq_true rfl⟩ dX5_comparisonSign_67 (fun q9 => ?_)
  refine rx_iload_n C 1 dX5_comparisonSign_70 rfl rfl ?_
  exact rx_iret C dX5_comparisonSign_71
set_option maxRecDepth 100000 in
set_option maxHeartbeats 4000000 in
theorem w_X5_comparisonSign_e {α : Nat → Nat} {D : va_G} {cA : Nat → ClassId} {z : Cz} (C : CX shX α D cA z RX5 cX5_comparisonSign 2 (some .int) 2 44) (σ : St) : RX emI shX α D cA z 2 σ 0 [(0, .ref (α 5))] [] (f_X5_comparisonSign σ) := by
  unfold f_X5_comparisonSign
  refine rx_iconst C dX5_comparisonSign_0 ic_0 ?_
  refine rx_istore_n C [(1, .int (0 : Int32)), (0, .ref (α 5))] dX5_comparisonSign_1 rfl (by decide) rfl ?_
  refine rx_aload_n C 1 dX5_comparisonSign_2 rfl rfl ?_
  refine rx_getC C (k := 0) sx_5 fc_X5 (by decide) 3 rfl lk_X5_9 dX5_comparisonSign_3 ?_
  refine rx_callVi C [] [] (m_X6_look z.l C.inj σ) mv_X6_look lk_X5_28 sx_3 rfl rfl rfl (Nat.le_of_ble_eq_true rfl) ⟨Nat.le_of_ble_eq_true rfl, Nat.le_of_ble_eq_true rfl⟩ dX5_comparisonSign_6 (fun q7 => ?_)
  refine rx_if (fun hs8 => ?_) (fun hs8 => ?_)
  · refine rx_tableIn C (tgt := 36) (60 : Int32) hs8 dX5_comparisonSign_9 (by decide) (by decide) rfl (by decide) ?_
    refine rx_bipush C dX5_comparisonSign_36 bp_m9 ?_
    refine rx_istore_n C [(1, .int (-9 : Int32)), (0, .ref (α 5))] dX5_comparisonSign_38 rfl (by decide) rfl ?_
    refine rx_goto C (tgt := 63) dX5_comparisonSign_39 (by decide) ?_
    exact RX.loc (w_X5_comparisonSign_63 C (-9 : Int32) q7.2) [1, 0] rfl
  refine rx_if (fun hs10 => ?_) (fun hs10 => ?_)
  · refine rx_tableIn C (tgt := 48) (61 : Int32) hs10 dX5_comparisonSign_9 (by decide) (by decide) rfl (by decide) ?_
    refine rx_bipush C dX5_comparisonSign_48 bp_m11 ?_
    refine rx_istore_n C [(1, .int (-11 : Int32)), (0, .ref (α 5))] dX5_comparisonSign_50 rfl (by decide) rfl ?_
    refine rx_goto C (tgt := 63) dX5_comparisonSign_51 (by decide) ?_
    exact RX.loc (w_X5_comparisonSign_63 C (-11 : Int32) q7.2) [1, 0] rfl
  refine rx_if (fun hs11 => ?_) (fun hs11 => ?_)
  · refine rx_tableIn C (tgt := 42) (62 : Int32) hs11 dX5_comparisonSign_9 (by decide) (by decide) rfl (by decide) ?_
    refine rx_bipush C dX5_comparisonSign_42 bp_m10 ?_
    refine rx_istore_n C [(1, .int (-10 : Int32)), (0, .ref (α 5))] dX5_comparisonSign_44 rfl (by decide) rfl ?_
    refine rx_goto C (tgt := 63) dX5_comparisonSign_45 (by decide) ?_
    exact RX.loc (w_X5_comparisonSign_63 C (-10 : Int32) q7.2) [1, 0] rfl
  refine rx_tableOut C (tgt := 54) dX5_comparisonSign_9 (by have := lv_neT (a := 60) hs8 (by decide); have := lv_neT (a := 61) hs10 (by decide); have := lv_neT (a := 62) hs11 (by decide); omega) (by decide) ?_
  refine rx_aload_n C 1 dX5_comparisonSign_54 rfl rfl ?_
  refine rx_getC C (k := 0) sx_5 fc_X5 (by decide) 3 rfl lk_X5_9 dX5_comparisonSign_55 ?_
  refine rx_iconst C dX5_comparisonSign_58 ic_1 ?_
  refine rx_callVi C [.int (1 : Int32)] [] (m_X6_failHere z.l C.inj (1 : Int32) q7.2) mv_X6_failHere lk_X5_62 sx_3 rfl rfl rfl (Nat.le_of_ble_eq_true rfl) ⟨Nat.le_of_ble_eq_true rfl, Nat.le_of_ble_eq_true rfl⟩ dX5_comparisonSign_59 (fun q12 => ?_)
  refine rx_pop C dX5_comparisonSign_62 rfl ?_
  exact RX.loc (w_X5_comparisonSign_63 C (0 : Int32) q12.2) [1, 0] rfl
theorem m_X5_comparisonSign (l : Launch) {α : Nat → Nat} {D : va_G} {cA : Nat → ClassId} (hin : inj shX.length α) (σ : St) : CT shX l yX5_comparisonSign cX5_comparisonSign 2 (some .int) 2 44 emI α D cA [.ref (α 5)] σ (f_X5_comparisonSign σ) := ct_of rfl (Nat.le_of_ble_eq_true rfl) hin (fun z _ C => w_X5_comparisonSign_e C σ)
set_option maxRecDepth 100000 in
set_option maxHeartbeats 4000000 in
theorem w_X5_fact_191 {d : Nat} {α : Nat → Nat} {D : va_G} {cA : Nat → ClassId} {z : Cz} (C : CX shX α D cA z RX5 cX5_fact 5 (some .boolean) (3 * d + 101) (70 * d + 2296)) (rec : Int32 → St → Option (Int32 × St)) (hrec : ∀ (x1 : Int32) (σ : St), CT shX z.l yX5_test cX5_test 4 (some .boolean) (3 * d + 100) (70 * d + 2273) emI α D cA [.ref (α 5), .int x1] σ (rec x1 σ)) (s0 : Int32) (σ : St) : RX emI shX α D cA z 5 σ 191 [] [.int s0] (f_X5_fact_191 rec s0 σ) := by
  unfold f_X5_fact_191
  exact rx_zret C dX5_fact_191
set_option maxRecDepth 100000 in
set_option maxHeartbeats 4000000 in
theorem w_X5_fact_190 {d : Nat} {α : Nat → Nat} {D : va_G} {cA : Nat → ClassId} {z : Cz} (C : CX shX α D cA z RX5 cX5_fact 5 (some .boolean) (3 * d + 101) (70 * d + 2296)) (rec : Int32 → St → Option (Int32 × St)) (hrec : ∀ (x1 : Int32) (σ : St), CT shX z.l yX5_test cX5_test 4 (some .boolean) (3 * d + 100) (70 * d + 2273) emI α D cA [.ref (α 5), .int x1] σ (rec x1 σ)) (σ : St) : RX emI shX α D cA z 5 σ 190 [] [] (f_X5_fact_190 rec σ) := by
  unfold f_X5_fact_190
  refine rx_iconst C dX5_fact_190 ic_0 ?_
  exact RX.loc (w_X5_fact_191 C rec hrec (0 : Int32) σ) [] rfl
set_option maxRecDepth 100000 in
set_option maxHeartbeats 4000000 in
theorem w_X5_fact_186 {d : Nat} {α : Nat → Nat} {D : va_G} {cA : Nat → ClassId} {z : Cz} (C : CX shX α D cA z RX5 cX5_fact 5 (some .boolean) (3 * d + 101) (70 * d + 2296)) (rec : Int32 → St → Option (Int32 × St)) (hrec : ∀ (x1 : Int32) (σ : St), CT shX z.l yX5_test cX5_test 4 (some .boolean) (3 * d + 100) (70 * d + 2273) emI α D cA [.ref (α 5), .int x1] σ (rec x1 σ)) (σ : St) : RX emI shX α D cA z 5 σ 186 [] [] (f_X5_fact_186 rec σ) := by
  unfold f_X5_fact_186
  refine rx_iconst C dX5_fact_186 ic_1 ?_
  refine rx_goto C (tgt := 191) dX5_fact_187 (by decide) ?_
  exact RX.loc (w_X5_fact_191 C rec hrec (1 : Int32) σ) [] rfl
set_option maxRecDepth 100000 in
set_option maxHeartbeats 4000000 in
theorem w_X5_fact_166 {d : Nat} {α : Nat → Nat} {D : va_G} {cA : Nat → ClassId} {z : Cz} (C : CX shX α D cA z RX5 cX5_fact 5 (some .boolean) (3 * d + 101) (70 * d + 2296)) (rec : Int32 → St → Option (Int32 × St)) (hrec : ∀ (x1 : Int32) (σ : St), CT shX z.l yX5_test cX5_test 4 (some .boolean) (3 * d + 100) (70 * d + 2273) emI α D cA [.ref (α 5), .int x1] σ (rec x1 σ)) (x2 : Int32) (x3 : Int32) (σ : St) : RX emI shX α D cA z 5 σ 166 [(0, .ref (α 5)), (2, .int x2), (3, .int x3)] [] (f_X5_fact_166 rec x2 x3 σ) := by
  unfold f_X5_fact_166
  refine rx_iload_n C 2 dX5_fact_166 rfl rfl ?_
  refine rx_if_eq C (tgt := 190) dX5_fact_167 (by decide) (fun _ => ?_) (fun _ => ?_)
  · exact RX.loc (w_X5_fact_190 C rec hrec σ) [] rfl
  · refine rx_iload_n C 1 dX5_fact_170 rfl rfl ?_
    refine rx_if_eq C (tgt := 186) dX5_fact_171 (by decide) (fun _ => ?_) (fun _ => ?_)
    · exact RX.loc (w_X5_fact_186 C rec hrec σ) [] rfl
    · refine rx_aload_n C 0 dX5_fact_174 rfl rfl ?_
      refine rx_getR C (k := 1) sx_5 fc_X5 (by decide) rfl lk_X5_15 dX5_fact_175 ?_
      refine rx_ltr (fun g18 => ?_)
      refine rx_if (fun hg18 => ?_) (fun _ => rx_none)
      refine rx_bipush C dX5_fact_178 bp_m6 ?_
      refine rx_callVi C [.int (-6 : Int32)] [] (m_X4_addCode z.l C.inj g18 (landB_is hg18) (-6 : Int32) σ) mv_X4_addCode lk_X5_174 (ld_sh (landB_is hg18)) rfl rfl rfl (Nat.le_of_ble_eq_true rfl) ⟨by omega, by omega⟩ dX5_fact_180 (fun q19 => ?_)
      refine rx_if_eq C (tgt := 190) dX5_fact_183 (by decide) (fun _ => ?_) (fun _ => ?_)
      · exact RX.loc (w_X5_fact_190 C rec hrec q19.2) [] rfl
      · exact RX.loc (w_X5_fact_186 C rec hrec q19.2) [] rfl
set_option maxRecDepth 100000 in
set_option maxHeartbeats 4000000 in
theorem w_X5_fact_113 {d : Nat} {α : Nat → Nat} {D : va_G} {cA : Nat → ClassId} {z : Cz} (C : CX shX α D cA z RX5 cX5_fact 5 (some .boolean) (3 * d + 101) (70 * d + 2296)) (rec : Int32 → St → Option (Int32 × St)) (hrec : ∀ (x1 : Int32) (σ : St), CT shX z.l yX5_test cX5_test 4 (some .boolean) (3 * d + 100) (70 * d + 2273) emI α D cA [.ref (α 5), .int x1] σ (rec x1 σ)) (x2 : Int32) (s0 : Int32) (σ : St) : RX emI shX α D cA z 5 σ 113 [(0, .ref (α 5)), (2, .int x2)] [.int s0] (f_X5_fact_113 rec x2 s0 σ) := by
  unfold f_X5_fact_113
  refine rx_istore_n C [(3, .int s0), (0, .ref (α 5)), (2, .int x2)] dX5_fact_113 rfl (by decide) rfl ?_
  refine rx_goto C (tgt := 166) dX5_fact_114 (by decide) ?_
  exact RX.loc (w_X5_fact_166 C rec hrec x2 s0 σ) [1, 2, 0] rfl
set_option maxRecDepth 100000 in
set_option maxHeartbeats 4000000 in
theorem w_X5_fact_112 {d : Nat} {α : Nat → Nat} {D : va_G} {cA : Nat → ClassId} {z : Cz} (C : CX shX α D cA z RX5 cX5_fact 5 (some .boolean) (3 * d + 101) (70 * d + 2296)) (rec : Int32 → St → Option (Int32 × St)) (hrec : ∀ (x1 : Int32) (σ : St), CT shX z.l yX5_test cX5_test 4 (some .boolean) (3 * d + 100) (70 * d + 2273) emI α D cA [.ref (α 5), .int x1] σ (rec x1 σ)) (x2 : Int32) (σ : St) : RX emI shX α D cA z 5 σ 112 [(0, .ref (α 5)), (2, .int x2)] [] (f_X5_fact_112 rec x2 σ) := by
  unfold f_X5_fact_112
  refine rx_iconst C dX5_fact_112 ic_0 ?_
  exact RX.loc (w_X5_fact_113 C rec hrec x2 (0 : Int32) σ) [0, 1] rfl
set_option maxRecDepth 100000 in
set_option maxHeartbeats 4000000 in
theorem w_X5_fact_165 {d : Nat} {α : Nat → Nat} {D : va_G} {cA : Nat → ClassId} {z : Cz} (C : CX shX α D cA z RX5 cX5_fact 5 (some .boolean) (3 * d + 101) (70 * d + 2296)) (rec : Int32 → St → Option (Int32 × St)) (hrec : ∀ (x1 : Int32) (σ : St), CT shX z.l yX5_test cX5_test 4 (some .boolean) (3 * d + 100) (70 * d + 2273) emI α D cA [.ref (α 5), .int x1] σ (rec x1 σ)) (x2 : Int32) (s0 : Int32) (σ : St) : RX emI shX α D cA z 5 σ 165 [(0, .ref (α 5)), (2, .int x2)] [.int s0] (f_X5_fact_165 rec x2 s0 σ) := by
  unfold f_X5_fact_165
  refine rx_istore_n C [(3, .int s0), (0, .ref (α 5)), (2, .int x2)] dX5_fact_165 rfl (by decide) rfl ?_
  exact RX.loc (w_X5_fact_166 C rec hrec x2 s0 σ) [1, 2, 0] rfl
set_option maxRecDepth 100000 in
set_option maxHeartbeats 4000000 in
theorem w_X5_fact_164 {d : Nat} {α : Nat → Nat} {D : va_G} {cA : Nat → ClassId} {z : Cz} (C : CX shX α D cA z RX5 cX5_fact 5 (some .boolean) (3 * d + 101) (70 * d + 2296)) (rec : Int32 → St → Option (Int32 × St)) (hrec : ∀ (x1 : Int32) (σ : St), CT shX z.l yX5_test cX5_test 4 (some .boolean) (3 * d + 100) (70 * d + 2273) emI α D cA [.ref (α 5), .int x1] σ (rec x1 σ)) (x2 : Int32) (σ : St) : RX emI shX α D cA z 5 σ 164 [(0, .ref (α 5)), (2, .int x2)] [] (f_X5_fact_164 rec x2 σ) := by
  unfold f_X5_fact_164
  refine rx_iconst C dX5_fact_164 ic_0 ?_
  exact RX.loc (w_X5_fact_165 C rec hrec x2 (0 : Int32) σ) [0, 1] rfl
set_option maxRecDepth 100000 in
set_option maxHeartbeats 4000000 in
theorem w_X5_fact_133 {d : Nat} {α : Nat → Nat} {D : va_G} {cA : Nat → ClassId} {z : Cz} (C : CX shX α D cA z RX5 cX5_fact 5 (some .boolean) (3 * d + 101) (70 * d + 2296)) (rec : Int32 → St → Option (Int32 × St)) (hrec : ∀ (x1 : Int32) (σ : St), CT shX z.l yX5_test cX5_test 4 (some .boolean) (3 * d + 100) (70 * d + 2273) emI α D cA [.ref (α 5), .int x1] σ (rec x1 σ)) (x1 : Int32) (x2 : Int32) (s0 : Int32) (σ : St) : RX emI shX α D cA z 5 σ 133 [(0, .ref (α 5)), (1, .int x1), (2, .int x2)] [.int s0] (f_X5_fact_133 rec x1 x2 s0 σ) := by
  unfold f_X5_fact_133
  refine rx_istore C [(4, .int s0), (0, .ref (α 5)), (1, .int x1), (2, .int x2)] dX5_fact_133 (by decide) rfl ?_
  refine rx_iload C 0 dX5_fact_135 rfl ?_
  refine rx_if_eq C (tgt := 164) dX5_fact_137 (by decide) (fun _ => ?_) (fun _ => ?_)
  · exact RX.loc (w_X5_fact_164 C rec hrec x2 σ) [1, 3] rfl
  · refine rx_aload_n C 1 dX5_fact_140 rfl rfl ?_
    refine rx_iload_n C 2 dX5_fact_141 rfl rfl ?_
    refine rx_callVi C [.int x1] [] (m_X5_sum z.l C.inj 24 x1 σ) mv_X5_sum lk_X5_151 sx_5 rfl rfl rfl (Nat.le_of_ble_eq_true rfl) ⟨by omega, by omega⟩ dX5_fact_142 (fun q25 => ?_)
    refine rx_if_eq C (tgt := 164) dX5_fact_145 (by decide) (fun _ => ?_) (fun _ => ?_)
    · exact RX.loc (w_X5_fact_164 C rec hrec x2 q25.2) [1, 3] rfl
    · refine rx_aload_n C 1 dX5_fact_148 rfl rfl ?_
      refine rx_getR C (k := 1) sx_5 fc_X5 (by decide) rfl lk_X5_15 dX5_fact_149 ?_
      refine rx_ltr (fun g26 => ?_)
      refine rx_if (fun hg26 => ?_) (fun _ => rx_none)
      refine rx_iload C 0 dX5_fact_152 rfl ?_
      refine rx_callVi C [.int s0] [] (m_X4_addCode z.l C.inj g26 (landB_is hg26) s0 q25.2) mv_X4_addCode lk_X5_174 (ld_sh (landB_is hg26)) rfl rfl rfl (Nat.le_of_ble_eq_true rfl) ⟨by omega, by omega⟩ dX5_fact_154 (fun q27 => ?_)
      refine rx_if_eq C (tgt := 164) dX5_fact_157 (by decide) (fun _ => ?_) (fun _ => ?_)
      · exact RX.loc (w_X5_fact_164 C rec hrec x2 q27.2) [1, 3] rfl
      · refine rx_iconst C dX5_fact_160 ic_1 ?_
        refine rx_goto C (tgt := 165) dX5_fact_161 (by decide) ?_
        exact RX.loc (w_X5_fact_165 C rec hrec x2 (1 : Int32) q27.2) [1, 3] rfl
set_option maxRecDepth 100000 in
set_option maxHeartbeats 4000000 in
theorem w_X5_fact_47 {d : Nat} {α : Nat → Nat} {D : va_G} {cA : Nat → ClassId} {z : Cz} (C : CX shX α D cA z RX5 cX5_fact 5 (some .boolean) (3 * d + 101) (70 * d + 2296)) (rec : Int32 → St → Option (Int32 × St)) (hrec : ∀ (x1 : Int32) (σ : St), CT shX z.l yX5_test cX5_test 4 (some .boolean) (3 * d + 100) (70 * d + 2273) emI α D cA [.ref (α 5), .int x1] σ (rec x1 σ)) (x1 : Int32) (x2 : Int32) (σ : St) : RX emI shX α D cA z 5 σ 47 [(0, .ref (α 5)), (1, .int x1), (2, .int x2)] [] (f_X5_fact_47 rec x1 x2 σ) := by
  unfold f_X5_fact_47
  refine rx_aload_n C 0 dX5_fact_47 rfl rfl ?_
  refine rx_getC C (k := 0) sx_5 fc_X5 (by decide) 3 rfl lk_X5_9 dX5_fact_48 ?_
  refine rx_callVi C [] [] (m_X6_look z.l C.inj σ) mv_X6_look lk_X5_28 sx_3 rfl rfl rfl (Nat.le_of_ble_eq_true rfl) ⟨by omega, by omega⟩ dX5_fact_51 (fun q16 => ?_)
  refine rx_sipush C dX5_fact_54 sp_417 ?_
  refine rx_icmp_ne C (tgt := 69) dX5_fact_57 (by decide) (fun _ => ?_) (fun _ => ?_)
  · refine rx_aload_n C 0 dX5_fact_60 rfl rfl ?_
    refine rx_iconst C dX5_fact_61 ic_1 ?_
    refine rx_callVi C [.int (1 : Int32)] [] (m_X5_step z.l C.inj (1 : Int32) q16.2) mv_X5_step lk_X5_180 sx_5 rfl rfl rfl (Nat.le_of_ble_eq_true rfl) ⟨by omega, by omega⟩ dX5_fact_62 (fun q17 => ?_)
    refine rx_istore_n C [(3, .int q17.1), (0, .ref (α 5)), (1, .int x1), (2, .int x2)] dX5_fact_65 rfl (by decide) rfl ?_
    refine rx_goto C (tgt := 166) dX5_fact_66 (by decide) ?_
    exact RX.loc (w_X5_fact_166 C rec hrec x2 q17.1 q17.2) [1, 3, 0] rfl
  · refine rx_aload_n C 0 dX5_fact_69 rfl rfl ?_
    refine rx_getC C (k := 0) sx_5 fc_X5 (by decide) 3 rfl lk_X5_9 dX5_fact_70 ?_
    refine rx_callVi C [] [] (m_X6_look z.l C.inj q16.2) mv_X6_look lk_X5_28 sx_3 rfl rfl rfl (Nat.le_of_ble_eq_true rfl) ⟨by omega, by omega⟩ dX5_fact_73 (fun q20 => ?_)
    refine rx_bipush C dX5_fact_76 bp_91 ?_
    refine rx_icmp_ne C (tgt := 117) dX5_fact_78 (by decide) (fun _ => ?_) (fun _ => ?_)
    · refine rx_aload_n C 0 dX5_fact_81 rfl rfl ?_
      refine rx_iload_n C 1 dX5_fact_82 rfl rfl ?_
      refine rx_callVi C [.int x1] [] (m_X5_bracket z.l C.inj x1 q20.2) mv_X5_bracket lk_X5_183 sx_5 rfl rfl rfl (Nat.le_of_ble_eq_true rfl) ⟨by omega, by omega⟩ dX5_fact_83 (fun q21 => ?_)
      refine rx_if_eq C (tgt := 112) dX5_fact_86 (by decide) (fun _ => ?_) (fun _ => ?_)
      · exact RX.loc (w_X5_fact_112 C rec hrec x2 q21.2) [0, 2] rfl
      · refine rx_aload_n C 0 dX5_fact_89 rfl rfl ?_
        refine rx_iload_n C 1 dX5_fact_90 rfl rfl ?_
        refine rx_iconst C dX5_fact_91 ic_1 ?_
        refine rx_iadd C dX5_fact_92 ?_
        refine rx_callVi C [.int (x1 + (1 : Int32))] [] (hrec (x1 + (1 : Int32)) q21.2) mv_X5_test lk_X5_154 sx_5 rfl rfl rfl (Nat.le_of_ble_eq_true rfl) ⟨by omega, by omega⟩ dX5_fact_93 (fun q22 => ?_)
        refine rx_if_eq C (tgt := 112) dX5_fact_96 (by decide) (fun _ => ?_) (fun _ => ?_)
        · exact RX.loc (w_X5_fact_112 C rec hrec x2 q22.2) [0, 2] rfl
        · refine rx_aload_n C 0 dX5_fact_99 rfl rfl ?_
          refine rx_bipush C dX5_fact_100 bp_93 ?_
          refine rx_callVi C [.int (93 : Int32)] [] (m_X5_token z.l C.inj (93 : Int32) q22.2) mv_X5_token lk_X5_66 sx_5 rfl rfl rfl (Nat.le_of_ble_eq_true rfl) ⟨by omega, by omega⟩ dX5_fact_102 (fun q23 => ?_)
          refine rx_if_eq C (tgt := 112) dX5_fact_105 (by decide) (fun _ => ?_) (fun _ => ?_)
          · exact RX.loc (w_X5_fact_112 C rec hrec x2 q23.2) [0, 2] rfl
          · refine rx_iconst C dX5_fact_108 ic_1 ?_
            refine rx_goto C (tgt := 113) dX5_fact_109 (by decide) ?_
            exact RX.loc (w_X5_fact_113 C rec hrec x2 (1 : Int32) q23.2) [0, 2] rfl
    · refine rx_aload_n C 0 dX5_fact_117 rfl rfl ?_
      refine rx_iload_n C 1 dX5_fact_118 rfl rfl ?_
      refine rx_callVi C [.int x1] [] (m_X5_sum z.l C.inj 24 x1 q20.2) mv_X5_sum lk_X5_151 sx_5 rfl rfl rfl (Nat.le_of_ble_eq_true rfl) ⟨by omega, by omega⟩ dX5_fact_119 (fun q24 => ?_)
      refine rx_if_eq C (tgt := 132) dX5_fact_122 (by decide) (fun _ => ?_) (fun _ => ?_)
      · refine rx_iconst C dX5_fact_132 ic_0 ?_
        exact RX.loc (w_X5_fact_133 C rec hrec x1 x2 (0 : Int32) q24.2) [0, 1, 2] rfl
      · refine rx_aload_n C 0 dX5_fact_125 rfl rfl ?_
        refine rx_callVi C [] [] (m_X5_comparisonSign z.l C.inj q24.2) mv_X5_comparisonSign lk_X5_186 sx_5 rfl rfl rfl (Nat.le_of_ble_eq_true rfl) ⟨by omega, by omega⟩ dX5_fact_126 (fun q28 => ?_)
        refine rx_goto C (tgt := 133) dX5_fact_129 (by decide) ?_
        exact RX.loc (w_X5_fact_133 C rec hrec x1 x2 q28.1 q28.2) [0, 1, 2] rfl
set_option maxRecDepth 100000 in
set_option maxHeartbeats 4000000 in
theorem w_X5_fact_40 {d : Nat} {α : Nat → Nat} {D : va_G} {cA : Nat → ClassId} {z : Cz} (C : CX shX α D cA z RX5 cX5_fact 5 (some .boolean) (3 * d + 101) (70 * d + 2296)) (rec : Int32 → St → Option (Int32 × St)) (hrec : ∀ (x1 : Int32) (σ : St), CT shX z.l yX5_test cX5_test 4 (some .boolean) (3 * d + 100) (70 * d + 2273) emI α D cA [.ref (α 5), .int x1] σ (rec x1 σ)) (k_4 : Int32 → Int32 → Int32 → St → Option (Int32 × St)) (hk_4 : ∀ (x1 : Int32) (x2 : Int32) (x3 : Int32) (σ : St), RX emI shX α D cA z 5 σ 4 [(0, .ref (α 5)), (1, .int x1), (2, .int x2), (3, .int x3)] [] (k_4 x1 x2 x3 σ)) (x1 : Int32) (x3 : Int32) (s0 : Int32) (σ : St) : RX emI shX α D cA z 5 σ 40 [(0, .ref (α 5)), (1, .int x1), (3, .int x3)] [.int s0] (f_X5_fact_40 rec k_4 x1 x3 s0 σ) := by
  unfold f_X5_fact_40
  refine rx_istore_n C [(2, .int s0), (0, .ref (α 5)), (1, .int x1), (3, .int x3)] dX5_fact_40 rfl (by decide) rfl ?_
  refine rx_iinc C (k0 := 3) (v := x3 + (1 : Int32)) [(3, .int (x3 + (1 : Int32))), (2, .int s0), (0, .ref (α 5)), (1, .int x1)] dX5_fact_41 rfl (congrArg _ ic_1) (by decide) rfl ?_
  refine rx_goto C (tgt := 4) dX5_fact_44 (by decide) ?_
  exact RX.loc (hk_4 x1 s0 (x3 + (1 : Int32)) σ) [2, 3, 1, 0] rfl
set_option maxRecDepth 100000 in
set_option maxHeartbeats 4000000 in
theorem w_X5_fact_4 {d : Nat} {α : Nat → Nat} {D : va_G} {cA : Nat → ClassId} {z : Cz} (C : CX shX α D cA z RX5 cX5_fact 5 (some .boolean) (3 * d + 101) (70 * d + 2296)) (rec : Int32 → St → Option (Int32 × St)) (hrec : ∀ (x1 : Int32) (σ : St), CT shX z.l yX5_test cX5_test 4 (some .boolean) (3 * d + 100) (70 * d + 2273) emI α D cA [.ref (α 5), .int x1] σ (rec x1 σ)) : ∀ (n : Nat) (x1 : Int32) (x2 : Int32) (x3 : Int32) (σ : St), RX emI shX α D cA z 5 σ 4 [(0, .ref (α 5)), (1, .int x1), (2, .int x2), (3, .int x3)] [] (f_X5_fact_4 rec n x1 x2 x3 σ) := by
  intro n
  induction n with
  | zero => intros; exact rx_none
  | succ n hk_4 =>
    intro x1 x2 x3 σ
    rw [f_X5_fact_4.eq_2]
    refine rx_iload_n C 3 dX5_fact_4 rfl rfl ?_
    refine rx_sipush C dX5_fact_5 sp_1600 ?_
    refine rx_icmp_ge C (tgt := 47) dX5_fact_8 (by decide) (fun _ => ?_) (fun _ => ?_)
    · exact RX.loc (w_X5_fact_47 C rec hrec x1 x2 σ) [0, 1, 2] rfl
    · refine rx_aload_n C 0 dX5_fact_11 rfl rfl ?_
      refine rx_getC C (k := 0) sx_5 fc_X5 (by decide) 3 rfl lk_X5_9 dX5_fact_12 ?_
      refine rx_callVi C [] [] (m_X6_look z.l C.inj σ) mv_X6_look lk_X5_28 sx_3 rfl rfl rfl (Nat.le_of_ble_eq_true rfl) ⟨by omega, by omega⟩ dX5_fact_15 (fun q29 => ?_)
      refine rx_sipush C dX5_fact_18 sp_416 ?_
      refine rx_icmp_ne C (tgt := 47) dX5_fact_21 (by decide) (fun _ => ?_) (fun _ => ?_)
      · refine rx_aload_n C 0 dX5_fact_24 rfl rfl ?_
        refine rx_getC C (k := 0) sx_5 fc_X5 (by decide) 3 rfl lk_X5_9 dX5_fact_25 ?_
        refine rx_callVv C [] [] (m_X6_skip z.l C.inj q29.2) mv_X6_skip lk_X5_72 sx_3 rfl rfl rfl (Nat.le_of_ble_eq_true rfl) ⟨by omega, by omega⟩ dX5_fact_28 (fun q30 => ?_)
        refine rx_iload_n C 2 dX5_fact_31 rfl rfl ?_
        refine rx_if_ne C (tgt := 39) dX5_fact_32 (by decide) (fun _ => ?_) (fun _ => ?_)
        · refine rx_iconst C dX5_fact_35 ic_1 ?_
          refine rx_goto C (tgt := 40) dX5_fact_36 (by decide) ?_
          exact RX.loc (w_X5_fact_40 C rec hrec (f_X5_fact_4 rec n) hk_4 x1 x3 (1 : Int32) q30.2) [0, 1, 3] rfl
        · refine rx_iconst C dX5_fact_39 ic_0 ?_
          exact RX.loc (w_X5_fact_40 C rec hrec (f_X5_fact_4 rec n) hk_4 x1 x3 (0 : Int32) q30.2) [0, 1, 3] rfl
      · exact RX.loc (w_X5_fact_47 C rec hrec x1 x2 q29.2) [0, 1, 2] rfl
set_option maxRecDepth 100000 in
set_option maxHeartbeats 4000000 in
theorem w_X5_fact_e {d : Nat} {α : Nat → Nat} {D : va_G} {cA : Nat → ClassId} {z : Cz} (C : CX shX α D cA z RX5 cX5_fact 5 (some .boolean) (3 * d + 101) (70 * d + 2296)) (rec : Int32 → St → Option (Int32 × St)) (hrec : ∀ (x1 : Int32) (σ : St), CT shX z.l yX5_test cX5_test 4 (some .boolean) (3 * d + 100) (70 * d + 2273) emI α D cA [.ref (α 5), .int x1] σ (rec x1 σ)) (x1 : Int32) (σ : St) : RX emI shX α D cA z 5 σ 0 [(0, .ref (α 5)), (1, .int x1)] [] (f_X5_fact rec x1 σ) := by
  unfold f_X5_fact
  refine rx_iconst C dX5_fact_0 ic_0 ?_
  refine rx_istore_n C [(2, .int (0 : Int32)), (0, .ref (α 5)), (1, .int x1)] dX5_fact_1 rfl (by decide) rfl ?_
  refine rx_iconst C dX5_fact_2 ic_0 ?_
  refine rx_istore_n C [(3, .int (0 : Int32)), (2, .int (0 : Int32)), (0, .ref (α 5)), (1, .int x1)] dX5_fact_3 rfl (by decide) rfl ?_
  exact RX.loc (w_X5_fact_4 C rec hrec FU x1 (0 : Int32) (0 : Int32) σ) [2, 3, 1, 0] rfl
theorem m_X5_fact (l : Launch) {α : Nat → Nat} {D : va_G} {cA : Nat → ClassId} (hin : inj shX.length α) (d : Nat) (rec : Int32 → St → Option (Int32 × St)) (hrec : ∀ (x1 : Int32) (σ : St), CT shX l yX5_test cX5_test 4 (some .boolean) (3 * d + 100) (70 * d + 2273) emI α D cA [.ref (α 5), .int x1] σ (rec x1 σ)) (x1 : Int32) (σ : St) : CT shX l yX5_fact cX5_fact 5 (some .boolean) (3 * d + 101) (70 * d + 2296) emI α D cA [.ref (α 5), .int x1] σ (f_X5_fact rec x1 σ) := ct_of rfl (Nat.le_of_ble_eq_true rfl) hin (fun z hz C => w_X5_fact_e C rec (by rw [hz]; exact hrec) x1 σ)
set_option maxRecDepth 100000 in
set_option maxHeartbeats 4000000 in
theorem w_X5_both_71 {d : Nat} {α : Nat → Nat} {D : va_G} {cA : Nat → ClassId} {z : Cz} (C : CX shX α D cA z RX5 cX5_both 4 (some .boolean) (3 * d + 102) (70 * d + 2320)) (rec : Int32 → St → Option (Int32 × St)) (hrec : ∀ (x1 : Int32) (σ : St), CT shX z.l yX5_test cX5_test 4 (some .boolean) (3 * d + 100) (70 * d + 2273) emI α D cA [.ref (α 5), .int x1] σ (rec x1 σ)) (x2 : Int32) (σ : St) : RX emI shX α D cA z 4 σ 71 [(2, .int x2)] [] (f_X5_both_71 rec x2 σ) := by
  unfold f_X5_both_71
  refine rx_iload_n C 0 dX5_both_71 rfl rfl ?_
  exact rx_zret C dX5_both_72
set_option maxRecDepth 100000 in
set_option maxHeartbeats 4000000 in
theorem w_X5_both_64 {d : Nat} {α : Nat → Nat} {D : va_G} {cA : Nat → ClassId} {z : Cz} (C : CX shX α D cA z RX5 cX5_both 4 (some .boolean) (3 * d + 102) (70 * d + 2320)) (rec : Int32 → St → Option (Int32 × St)) (hrec : ∀ (x1 : Int32) (σ : St), CT shX z.l yX5_test cX5_test 4 (some .boolean) (3 * d + 100) (70 * d + 2273) emI α D cA [.ref (α 5), .int x1] σ (rec x1 σ)) (k_8 : Int32 → Int32 → Int32 → St → Option (Int32 × St)) (hk_8 : ∀ (x1 : Int32) (x2 : Int32) (x3 : Int32) (σ : St), RX emI shX α D cA z 4 σ 8 [(0, .ref (α 5)), (1, .int x1), (2, .int x2), (3, .int x3)] [] (k_8 x1 x2 x3 σ)) (x1 : Int32) (x3 : Int32) (s0 : Int32) (σ : St) : RX emI shX α D cA z 4 σ 64 [(0, .ref (α 5)), (1, .int x1), (3, .int x3)] [.int s0] (f_X5_both_64 rec k_8 x1 x3 s0 σ) := by
  unfold f_X5_both_64
  refine rx_istore_n C [(2, .int s0), (0, .ref (α 5)), (1, .int x1), (3, .int x3)] dX5_both_64 rfl (by decide) rfl ?_
  refine rx_iinc C (k0 := 3) (v := x3 + (1 : Int32)) [(3, .int (x3 + (1 : Int32))), (2, .int s0), (0, .ref (α 5)), (1, .int x1)] dX5_both_65 rfl (congrArg _ ic_1) (by decide) rfl ?_
  refine rx_goto C (tgt := 8) dX5_both_68 (by decide) ?_
  exact RX.loc (hk_8 x1 s0 (x3 + (1 : Int32)) σ) [2, 3, 1, 0] rfl
set_option maxRecDepth 100000 in
set_option maxHeartbeats 4000000 in
theorem w_X5_both_63 {d : Nat} {α : Nat → Nat} {D : va_G} {cA : Nat → ClassId} {z : Cz} (C : CX shX α D cA z RX5 cX5_both 4 (some .boolean) (3 * d + 102) (70 * d + 2320)) (rec : Int32 → St → Option (Int32 × St)) (hrec : ∀ (x1 : Int32) (σ : St), CT shX z.l yX5_test cX5_test 4 (some .boolean) (3 * d + 100) (70 * d + 2273) emI α D cA [.ref (α 5), .int x1] σ (rec x1 σ)) (k_8 : Int32 → Int32 → Int32 → St → Option (Int32 × St)) (hk_8 : ∀ (x1 : Int32) (x2 : Int32) (x3 : Int32) (σ : St), RX emI shX α D cA z 4 σ 8 [(0, .ref (α 5)), (1, .int x1), (2, .int x2), (3, .int x3)] [] (k_8 x1 x2 x3 σ)) (x1 : Int32) (x3 : Int32) (σ : St) : RX emI shX α D cA z 4 σ 63 [(0, .ref (α 5)), (1, .int x1), (3, .int x3)] [] (f_X5_both_63 rec k_8 x1 x3 σ) := by
  unfold f_X5_both_63
  refine rx_iconst C dX5_both_63 ic_0 ?_
  exact RX.loc (w_X5_both_64 C rec hrec k_8 hk_8 x1 x3 (0 : Int32) σ) [0, 1, 2] rfl
set_option maxRecDepth 100000 in
set_option maxHeartbeats 4000000 in
theorem w_X5_both_8 {d : Nat} {α : Nat → Nat} {D : va_G} {cA : Nat → ClassId} {z : Cz} (C : CX shX α D cA z RX5 cX5_both 4 (some .boolean) (3 * d + 102) (70 * d + 2320)) (rec : Int32 → St → Option (Int32 × St)) (hrec : ∀ (x1 : Int32) (σ : St), CT shX z.l yX5_test cX5_test 4 (some .boolean) (3 * d + 100) (70 * d + 2273) emI α D cA [.ref (α 5), .int x1] σ (rec x1 σ)) : ∀ (n : Nat) (x1 : Int32) (x2 : Int32) (x3 : Int32) (σ : St), RX emI shX α D cA z 4 σ 8 [(0, .ref (α 5)), (1, .int x1), (2, .int x2), (3, .int x3)] [] (f_X5_both_8 rec n x1 x2 x3 σ) := by
  intro n
  induction n with
  | zero => intros; exact rx_none
  | succ n hk_8 =>
    intro x1 x2 x3 σ
    rw [f_X5_both_8.eq_2]
    refine rx_iload_n C 3 dX5_both_8 rfl rfl ?_
    refine rx_sipush C dX5_both_9 sp_1600 ?_
    refine rx_icmp_ge C (tgt := 71) dX5_both_12 (by decide) (fun _ => ?_) (fun _ => ?_)
    · exact RX.loc (w_X5_both_71 C rec hrec x2 σ) [2] rfl
    · refine rx_iload_n C 2 dX5_both_15 rfl rfl ?_
      refine rx_if_eq C (tgt := 71) dX5_both_16 (by decide) (fun _ => ?_) (fun _ => ?_)
      · exact RX.loc (w_X5_both_71 C rec hrec x2 σ) [2] rfl
      · refine rx_aload_n C 0 dX5_both_19 rfl rfl ?_
        refine rx_getC C (k := 0) sx_5 fc_X5 (by decide) 3 rfl lk_X5_9 dX5_both_20 ?_
        refine rx_callVi C [] [] (m_X6_look z.l C.inj σ) mv_X6_look lk_X5_28 sx_3 rfl rfl rfl (Nat.le_of_ble_eq_true rfl) ⟨by omega, by omega⟩ dX5_both_23 (fun q8 => ?_)
        refine rx_sipush C dX5_both_26 sp_415 ?_
        refine rx_icmp_ne C (tgt := 71) dX5_both_29 (by decide) (fun _ => ?_) (fun _ => ?_)
        · refine rx_aload_n C 0 dX5_both_32 rfl rfl ?_
          refine rx_getC C (k := 0) sx_5 fc_X5 (by decide) 3 rfl lk_X5_9 dX5_both_33 ?_
          refine rx_callVv C [] [] (m_X6_skip z.l C.inj q8.2) mv_X6_skip lk_X5_72 sx_3 rfl rfl rfl (Nat.le_of_ble_eq_true rfl) ⟨by omega, by omega⟩ dX5_both_36 (fun q9 => ?_)
          refine rx_aload_n C 0 dX5_both_39 rfl rfl ?_
          refine rx_iload_n C 1 dX5_both_40 rfl rfl ?_
          refine rx_callVi C [.int x1] [] (m_X5_fact z.l C.inj d rec hrec x1 q9.2) mv_X5_fact lk_X5_177 sx_5 rfl rfl rfl (Nat.le_of_ble_eq_true rfl) ⟨by omega, by omega⟩ dX5_both_41 (fun q10 => ?_)
          refine rx_if_eq C (tgt := 63) dX5_both_44 (by decide) (fun _ => ?_) (fun _ => ?_)
          · exact RX.loc (w_X5_both_63 C rec hrec (f_X5_both_8 rec n) hk_8 x1 x3 q10.2) [0, 1, 3] rfl
          · refine rx_aload_n C 0 dX5_both_47 rfl rfl ?_
            refine rx_getR C (k := 1) sx_5 fc_X5 (by decide) rfl lk_X5_15 dX5_both_48 ?_
            refine rx_ltr (fun g11 => ?_)
            refine rx_if (fun hg11 => ?_) (fun _ => rx_none)
            refine rx_bipush C dX5_both_51 bp_m8 ?_
            refine rx_callVi C [.int (-8 : Int32)] [] (m_X4_addCode z.l C.inj g11 (landB_is hg11) (-8 : Int32) q10.2) mv_X4_addCode lk_X5_174 (ld_sh (landB_is hg11)) rfl rfl rfl (Nat.le_of_ble_eq_true rfl) ⟨by omega, by omega⟩ dX5_both_53 (fun q12 => ?_)
            refine rx_if_eq C (tgt := 63) dX5_both_56 (by decide) (fun _ => ?_) (fun _ => ?_)
            · exact RX.loc (w_X5_both_63 C rec hrec (f_X5_both_8 rec n) hk_8 x1 x3 q12.2) [0, 1, 3] rfl
            · refine rx_iconst C dX5_both_59 ic_1 ?_
              refine rx_goto C (tgt := 64) dX5_both_60 (by decide) ?_
              exact RX.loc (w_X5_both_64 C rec hrec (f_X5_both_8 rec n) hk_8 x1 x3 (1 : Int32) q12.2) [0, 1, 3] rfl
        · exact RX.loc (w_X5_both_71 C rec hrec x2 q8.2) [2] rfl
set_option maxRecDepth 100000 in
set_option maxHeartbeats 4000000 in
theorem w_X5_both_e {d : Nat} {α : Nat → Nat} {D : va_G} {cA : Nat → ClassId} {z : Cz} (C : CX shX α D cA z RX5 cX5_both 4 (some .boolean) (3 * d + 102) (70 * d + 2320)) (rec : Int32 → St → Option (Int32 × St)) (hrec : ∀ (x1 : Int32) (σ : St), CT shX z.l yX5_test cX5_test 4 (some .boolean) (3 * d + 100) (70 * d + 2273) emI α D cA [.ref (α 5), .int x1] σ (rec x1 σ)) (x1 : Int32) (σ : St) : RX emI shX α D cA z 4 σ 0 [(0, .ref (α 5)), (1, .int x1)] [] (f_X5_both rec x1 σ) := by
  unfold f_X5_both
  refine rx_aload_n C 0 dX5_both_0 rfl rfl ?_
  refine rx_iload_n C 1 dX5_both_1 rfl rfl ?_
  refine rx_callVi C [.int x1] [] (m_X5_fact z.l C.inj d rec hrec x1 σ) mv_X5_fact lk_X5_177 sx_5 rfl rfl rfl (Nat.le_of_ble_eq_true rfl) ⟨by omega, by omega⟩ dX5_both_2 (fun q7 => ?_)
  refine rx_istore_n C [(2, .int q7.1), (0, .ref (α 5)), (1, .int x1)] dX5_both_5 rfl (by decide) rfl ?_
  refine rx_iconst C dX5_both_6 ic_0 ?_
  refine rx_istore_n C [(3, .int (0 : Int32)), (2, .int q7.1), (0, .ref (α 5)), (1, .int x1)] dX5_both_7 rfl (by decide) rfl ?_
  exact RX.loc (w_X5_both_8 C rec hrec FU x1 q7.1 (0 : Int32) q7.2) [2, 3, 1, 0] rfl
theorem m_X5_both (l : Launch) {α : Nat → Nat} {D : va_G} {cA : Nat → ClassId} (hin : inj shX.length α) (d : Nat) (rec : Int32 → St → Option (Int32 × St)) (hrec : ∀ (x1 : Int32) (σ : St), CT shX l yX5_test cX5_test 4 (some .boolean) (3 * d + 100) (70 * d + 2273) emI α D cA [.ref (α 5), .int x1] σ (rec x1 σ)) (x1 : Int32) (σ : St) : CT shX l yX5_both cX5_both 4 (some .boolean) (3 * d + 102) (70 * d + 2320) emI α D cA [.ref (α 5), .int x1] σ (f_X5_both rec x1 σ) := ct_of rfl (Nat.le_of_ble_eq_true rfl) hin (fun z hz C => w_X5_both_e C rec (by rw [hz]; exact hrec) x1 σ)
set_option maxRecDepth 100000 in
set_option maxHeartbeats 4000000 in
theorem w_X5_test_71 {d : Nat} {α : Nat → Nat} {D : va_G} {cA : Nat → ClassId} {z : Cz} (C : CX shX α D cA z RX5 cX5_test 4 (some .boolean) (3 * d + 103) (70 * d + 2343)) (rec : Int32 → St → Option (Int32 × St)) (hrec : ∀ (x1 : Int32) (σ : St), CT shX z.l yX5_test cX5_test 4 (some .boolean) (3 * d + 100) (70 * d + 2273) emI α D cA [.ref (α 5), .int x1] σ (rec x1 σ)) (x2 : Int32) (σ : St) : RX emI shX α D cA z 4 σ 71 [(2, .int x2)] [] (f_X5_test_71 rec x2 σ) := by
  unfold f_X5_test_71
  refine rx_iload_n C 0 dX5_test_71 rfl rfl ?_
  exact rx_zret C dX5_test_72
set_option maxRecDepth 100000 in
set_option maxHeartbeats 4000000 in
theorem w_X5_test_64 {d : Nat} {α : Nat → Nat} {D : va_G} {cA : Nat → ClassId} {z : Cz} (C : CX shX α D cA z RX5 cX5_test 4 (some .boolean) (3 * d + 103) (70 * d + 2343)) (rec : Int32 → St → Option (Int32 × St)) (hrec : ∀ (x1 : Int32) (σ : St), CT shX z.l yX5_test cX5_test 4 (some .boolean) (3 * d + 100) (70 * d + 2273) emI α D cA [.ref (α 5), .int x1] σ (rec x1 σ)) (k_8 : Int32 → Int32 → Int32 → St → Option (Int32 × St)) (hk_8 : ∀ (x1 : Int32) (x2 : Int32) (x3 : Int32) (σ : St), RX emI shX α D cA z 4 σ 8 [(0, .ref (α 5)), (1, .int x1), (2, .int x2), (3, .int x3)] [] (k_8 x1 x2 x3 σ)) (x1 : Int32) (x3 : Int32) (s0 : Int32) (σ : St) : RX emI shX α D cA z 4 σ 64 [(0, .ref (α 5)), (1, .int x1), (3, .int x3)] [.int s0] (f_X5_test_64 rec k_8 x1 x3 s0 σ) := by
  unfold f_X5_test_64
  refine rx_istore_n C [(2, .int s0), (0, .ref (α 5)), (1, .int x1), (3, .int x3)] dX5_test_64 rfl (by decide) rfl ?_
  refine rx_iinc C (k0 := 3) (v := x3 + (1 : Int32)) [(3, .int (x3 + (1 : Int32))), (2, .int s0), (0, .ref (α 5)), (1, .int x1)] dX5_test_65 rfl (congrArg _ ic_1) (by decide) rfl ?_
  refine rx_goto C (tgt := 8) dX5_test_68 (by decide) ?_
  exact RX.loc (hk_8 x1 s0 (x3 + (1 : Int32)) σ) [2, 3, 1, 0] rfl
set_option maxRecDepth 100000 in
set_option maxHeartbeats 4000000 in
theorem w_X5_test_63 {d : Nat} {α : Nat → Nat} {D : va_G} {cA : Nat → ClassId} {z : Cz} (C : CX shX α D cA z RX5 cX5_test 4 (some .boolean) (3 * d + 103) (70 * d + 2343)) (rec : Int32 → St → Option (Int32 × St)) (hrec : ∀ (x1 : Int32) (σ : St), CT shX z.l yX5_test cX5_test 4 (some .boolean) (3 * d + 100) (70 * d + 2273) emI α D cA [.ref (α 5), .int x1] σ (rec x1 σ)) (k_8 : Int32 → Int32 → Int32 → St → Option (Int32 × St)) (hk_8 : ∀ (x1 : Int32) (x2 : Int32) (x3 : Int32) (σ : St), RX emI shX α D cA z 4 σ 8 [(0, .ref (α 5)), (1, .int x1), (2, .int x2), (3, .int x3)] [] (k_8 x1 x2 x3 σ)) (x1 : Int32) (x3 : Int32) (σ : St) : RX emI shX α D cA z 4 σ 63 [(0, .ref (α 5)), (1, .int x1), (3, .int x3)] [] (f_X5_test_63 rec k_8 x1 x3 σ) := by
  unfold f_X5_test_63
  refine rx_iconst C dX5_test_63 ic_0 ?_
  exact RX.loc (w_X5_test_64 C rec hrec k_8 hk_8 x1 x3 (0 : Int32) σ) [0, 1, 2] rfl
set_option maxRecDepth 100000 in
set_option maxHeartbeats 4000000 in
theorem w_X5_test_8 {d : Nat} {α : Nat → Nat} {D : va_G} {cA : Nat → ClassId} {z : Cz} (C : CX shX α D cA z RX5 cX5_test 4 (some .boolean) (3 * d + 103) (70 * d + 2343)) (rec : Int32 → St → Option (Int32 × St)) (hrec : ∀ (x1 : Int32) (σ : St), CT shX z.l yX5_test cX5_test 4 (some .boolean) (3 * d + 100) (70 * d + 2273) emI α D cA [.ref (α 5), .int x1] σ (rec x1 σ)) : ∀ (n : Nat) (x1 : Int32) (x2 : Int32) (x3 : Int32) (σ : St), RX emI shX α D cA z 4 σ 8 [(0, .ref (α 5)), (1, .int x1), (2, .int x2), (3, .int x3)] [] (f_X5_test_8 rec n x1 x2 x3 σ) := by
  intro n
  induction n with
  | zero => intros; exact rx_none
  | succ n hk_8 =>
    intro x1 x2 x3 σ
    rw [f_X5_test_8.eq_2]
    refine rx_iload_n C 3 dX5_test_8 rfl rfl ?_
    refine rx_sipush C dX5_test_9 sp_1600 ?_
    refine rx_icmp_ge C (tgt := 71) dX5_test_12 (by decide) (fun _ => ?_) (fun _ => ?_)
    · exact RX.loc (w_X5_test_71 C rec hrec x2 σ) [2] rfl
    · refine rx_iload_n C 2 dX5_test_15 rfl rfl ?_
      refine rx_if_eq C (tgt := 71) dX5_test_16 (by decide) (fun _ => ?_) (fun _ => ?_)
      · exact RX.loc (w_X5_test_71 C rec hrec x2 σ) [2] rfl
      · refine rx_aload_n C 0 dX5_test_19 rfl rfl ?_
        refine rx_getC C (k := 0) sx_5 fc_X5 (by decide) 3 rfl lk_X5_9 dX5_test_20 ?_
        refine rx_callVi C [] [] (m_X6_look z.l C.inj σ) mv_X6_look lk_X5_28 sx_3 rfl rfl rfl (Nat.le_of_ble_eq_true rfl) ⟨by omega, by omega⟩ dX5_test_23 (fun q8 => ?_)
        refine rx_sipush C dX5_test_26 sp_414 ?_
        refine rx_icmp_ne C (tgt := 71) dX5_test_29 (by decide) (fun _ => ?_) (fun _ => ?_)
        · refine rx_aload_n C 0 dX5_test_32 rfl rfl ?_
          refine rx_getC C (k := 0) sx_5 fc_X5 (by decide) 3 rfl lk_X5_9 dX5_test_33 ?_
          refine rx_callVv C [] [] (m_X6_skip z.l C.inj q8.2) mv_X6_skip lk_X5_72 sx_3 rfl rfl rfl (Nat.le_of_ble_eq_true rfl) ⟨by omega, by omega⟩ dX5_test_36 (fun q9 => ?_)
          refine rx_aload_n C 0 dX5_test_39 rfl rfl ?_
          refine rx_iload_n C 1 dX5_test_40 rfl rfl ?_
          refine rx_callVi C [.int x1] [] (m_X5_both z.l C.inj d rec hrec x1 q9.2) mv_X5_both lk_X5_169 sx_5 rfl rfl rfl (Nat.le_of_ble_eq_true rfl) ⟨by omega, by omega⟩ dX5_test_41 (fun q10 => ?_)
          refine rx_if_eq C (tgt := 63) dX5_test_44 (by decide) (fun _ => ?_) (fun _ => ?_)
          · exact RX.loc (w_X5_test_63 C rec hrec (f_X5_test_8 rec n) hk_8 x1 x3 q10.2) [0, 1, 3] rfl
          · refine rx_aload_n C 0 dX5_test_47 rfl rfl ?_
            refine rx_getR C (k := 1) sx_5 fc_X5 (by decide) rfl lk_X5_15 dX5_test_48 ?_
            refine rx_ltr (fun g11 => ?_)
            refine rx_if (fun hg11 => ?_) (fun _ => rx_none)
            refine rx_bipush C dX5_test_51 bp_m7 ?_
            refine rx_callVi C [.int (-7 : Int32)] [] (m_X4_addCode z.l C.inj g11 (landB_is hg11) (-7 : Int32) q10.2) mv_X4_addCode lk_X5_174 (ld_sh (landB_is hg11)) rfl rfl rfl (Nat.le_of_ble_eq_true rfl) ⟨by omega, by omega⟩ dX5_test_53 (fun q12 => ?_)
            refine rx_if_eq C (tgt := 63) dX5_test_56 (by decide) (fun _ => ?_) (fun _ => ?_)
            · exact RX.loc (w_X5_test_63 C rec hrec (f_X5_test_8 rec n) hk_8 x1 x3 q12.2) [0, 1, 3] rfl
            · refine rx_iconst C dX5_test_59 ic_1 ?_
              refine rx_goto C (tgt := 64) dX5_test_60 (by decide) ?_
              exact RX.loc (w_X5_test_64 C rec hrec (f_X5_test_8 rec n) hk_8 x1 x3 (1 : Int32) q12.2) [0, 1, 3] rfl
        · exact RX.loc (w_X5_test_71 C rec hrec x2 q8.2) [2] rfl
set_option maxRecDepth 100000 in
set_option maxHeartbeats 4000000 in
theorem w_X5_test_e {d : Nat} {α : Nat → Nat} {D : va_G} {cA : Nat → ClassId} {z : Cz} (C : CX shX α D cA z RX5 cX5_test 4 (some .boolean) (3 * d + 103) (70 * d + 2343)) (rec : Int32 → St → Option (Int32 × St)) (hrec : ∀ (x1 : Int32) (σ : St), CT shX z.l yX5_test cX5_test 4 (some .boolean) (3 * d + 100) (70 * d + 2273) emI α D cA [.ref (α 5), .int x1] σ (rec x1 σ)) (x1 : Int32) (σ : St) : RX emI shX α D cA z 4 σ 0 [(0, .ref (α 5)), (1, .int x1)] [] (fb_X5_test rec x1 σ) := by
  unfold fb_X5_test
  refine rx_aload_n C 0 dX5_test_0 rfl rfl ?_
  refine rx_iload_n C 1 dX5_test_1 rfl rfl ?_
  refine rx_callVi C [.int x1] [] (m_X5_both z.l C.inj d rec hrec x1 σ) mv_X5_both lk_X5_169 sx_5 rfl rfl rfl (Nat.le_of_ble_eq_true rfl) ⟨by omega, by omega⟩ dX5_test_2 (fun q7 => ?_)
  refine rx_istore_n C [(2, .int q7.1), (0, .ref (α 5)), (1, .int x1)] dX5_test_5 rfl (by decide) rfl ?_
  refine rx_iconst C dX5_test_6 ic_0 ?_
  refine rx_istore_n C [(3, .int (0 : Int32)), (2, .int q7.1), (0, .ref (α 5)), (1, .int x1)] dX5_test_7 rfl (by decide) rfl ?_
  exact RX.loc (w_X5_test_8 C rec hrec FU x1 q7.1 (0 : Int32) q7.2) [2, 3, 1, 0] rfl
theorem m_X5_test (l : Launch) {α : Nat → Nat} {D : va_G} {cA : Nat → ClassId} (hin : inj shX.length α) (d : Nat) : ∀ (x1 : Int32) (σ : St), CT shX l yX5_test cX5_test 4 (some .boolean) (3 * d + 100) (70 * d + 2273) emI α D cA [.ref (α 5), .int x1] σ (f_X5_test d x1 σ) := by
  induction d with
  | zero => intro x1 σ r σ1 e; cases e
  | succ d ih =>
    intro x1 σ
    exact ct_of rfl (Nat.le_of_ble_eq_true rfl) hin (fun z hz C => w_X5_test_e (d := d) (C.wider (by omega) (by omega)) (f_X5_test d) (by rw [hz]; exact ih) x1 σ)
set_option maxRecDepth 100000 in
set_option maxHeartbeats 4000000 in
theorem w_X5_newLaw_65 {α : Nat → Nat} {D : va_G} {cA : Nat → ClassId} {z : Cz} (C : CX shX α D cA z RX5 cX5_newLaw 2 (some .boolean) 173 3976) (σ : St) : RX emI shX α D cA z 2 σ 65 [] [] (f_X5_newLaw_65 σ) := by
  unfold f_X5_newLaw_65
  refine rx_iconst C dX5_newLaw_65 ic_0 ?_
  exact rx_zretC C dX5_newLaw_66 rfl
set_option maxRecDepth 100000 in
set_option maxHeartbeats 4000000 in
theorem w_X5_newLaw_e {α : Nat → Nat} {D : va_G} {cA : Nat → ClassId} {z : Cz} (C : CX shX α D cA z RX5 cX5_newLaw 2 (some .boolean) 173 3976) (σ : St) : RX emI shX α D cA z 2 σ 0 [(0, .ref (α 5))] [] (f_X5_newLaw σ) := by
  unfold f_X5_newLaw
  refine rx_aload_n C 0 dX5_newLaw_0 rfl rfl ?_
  refine rx_aload_n C 0 dX5_newLaw_1 rfl rfl ?_
  refine rx_getR C (k := 1) sx_5 fc_X5 (by decide) rfl lk_X5_15 dX5_newLaw_2 ?_
  refine rx_ltr (fun g17 => ?_)
  refine rx_if (fun hg17 => ?_) (fun _ => rx_none)
  refine rx_getC C (k := 3) (ld_sh (landB_is hg17)) fc_X4 (by decide) (g17 + 10) rfl lk_X5_141 dX5_newLaw_5 ?_
  refine rx_callVi C [.ref (α (g17 + 10))] [] (m_X5_begin z.l C.inj (g17 + 10) (ld_10 (landB_is hg17)) σ) mv_X5_begin lk_X5_96 sx_5 rfl rfl rfl (Nat.le_of_ble_eq_true rfl) ⟨Nat.le_of_ble_eq_true rfl, Nat.le_of_ble_eq_true rfl⟩ dX5_newLaw_8 (fun q18 => ?_)
  refine rx_if_ne C (tgt := 16) dX5_newLaw_11 (by decide) (fun _ => ?_) (fun _ => ?_)
  · refine rx_iconst C dX5_newLaw_14 ic_0 ?_
    exact rx_zretC C dX5_newLaw_15 rfl
  · refine rx_aload_n C 0 dX5_newLaw_16 rfl rfl ?_
    refine rx_getR C (k := 1) sx_5 fc_X5 (by decide) rfl lk_X5_15 dX5_newLaw_17 ?_
    refine rx_ltr (fun g19 => ?_)
    refine rx_if (fun hg19 => ?_) (fun _ => rx_none)
    refine rx_getC C (k := 3) (ld_sh (landB_is hg19)) fc_X4 (by decide) (g19 + 10) rfl lk_X5_141 dX5_newLaw_20 ?_
    refine rx_iconst C dX5_newLaw_23 ic_0 ?_
    refine rx_callVi C [.int (0 : Int32)] [] (m_X8_add z.l C.inj (g19 + 10) (ld_10 (landB_is hg19)) (0 : Int32) q18.2) mv_X8_add lk_X5_138 (ro_sh (ld_10 (landB_is hg19))) rfl rfl rfl (Nat.le_of_ble_eq_true rfl) ⟨Nat.le_of_ble_eq_true rfl, Nat.le_of_ble_eq_true rfl⟩ dX5_newLaw_24 (fun q20 => ?_)
    refine rx_istore_n C [(1, .int q20.1), (0, .ref (α 5))] dX5_newLaw_27 rfl (by decide) rfl ?_
    refine rx_aload_n C 1 dX5_newLaw_28 rfl rfl ?_
    refine rx_getR C (k := 1) sx_5 fc_X5 (by decide) rfl lk_X5_15 dX5_newLaw_29 ?_
    refine rx_ltr (fun g21 => ?_)
    refine rx_if (fun hg21 => ?_) (fun _ => rx_none)
    refine rx_getC C (k := 3) (ld_sh (landB_is hg21)) fc_X4 (by decide) (g21 + 10) rfl lk_X5_141 dX5_newLaw_32 ?_
    refine rx_iload_n C 0 dX5_newLaw_35 rfl rfl ?_
    refine rx_iconst C dX5_newLaw_36 ic_0 ?_
    refine rx_aload_n C 1 dX5_newLaw_37 rfl rfl ?_
    refine rx_getR C (k := 1) sx_5 fc_X5 (by decide) rfl lk_X5_15 dX5_newLaw_38 ?_
    refine rx_ltr (fun g22 => ?_)
    refine rx_if (fun hg22 => ?_) (fun _ => rx_none)
    refine rx_getI C (k := 9) (ld_sh (landB_is hg22)) fc_X4 (by decide) rfl lk_X5_144 dX5_newLaw_41 ?_
    refine rx_callVv C [.int q20.1, .int (0 : Int32), .int (gI q20.2 g22 9)] [] (m_X8_put z.l C.inj (g21 + 10) (ld_10 (landB_is hg21)) q20.1 (0 : Int32) (gI q20.2 g22 9) q20.2) mv_X8_put lk_X5_147 (ro_sh (ld_10 (landB_is hg21))) rfl rfl rfl (Nat.le_of_ble_eq_true rfl) ⟨Nat.le_of_ble_eq_true rfl, Nat.le_of_ble_eq_true rfl⟩ dX5_newLaw_44 (fun q23 => ?_)
    refine rx_aload_n C 1 dX5_newLaw_47 rfl rfl ?_
    refine rx_iconst C dX5_newLaw_48 ic_0 ?_
    refine rx_callVi C [.int (0 : Int32)] [] (m_X5_sum z.l C.inj 24 (0 : Int32) q23.2) mv_X5_sum lk_X5_151 sx_5 rfl rfl rfl (Nat.le_of_ble_eq_true rfl) ⟨Nat.le_of_ble_eq_true rfl, Nat.le_of_ble_eq_true rfl⟩ dX5_newLaw_49 (fun q24 => ?_)
    refine rx_if_eq C (tgt := 65) dX5_newLaw_52 (by decide) (fun _ => ?_) (fun _ => ?_)
    · exact RX.loc (w_X5_newLaw_65 C q24.2) [] rfl
    · refine rx_aload_n C 1 dX5_newLaw_55 rfl rfl ?_
      refine rx_sipush C dX5_newLaw_56 sp_413 ?_
      refine rx_callVi C [.int (413 : Int32)] [] (m_X5_token z.l C.inj (413 : Int32) q24.2) mv_X5_token lk_X5_66 sx_5 rfl rfl rfl (Nat.le_of_ble_eq_true rfl) ⟨Nat.le_of_ble_eq_true rfl, Nat.le_of_ble_eq_true rfl⟩ dX5_newLaw_59 (fun q25 => ?_)
      refine rx_if_ne C (tgt := 67) dX5_newLaw_62 (by decide) (fun _ => ?_) (fun _ => ?_)
      · exact RX.loc (w_X5_newLaw_65 C q25.2) [] rfl
      · refine rx_aload_n C 1 dX5_newLaw_67 rfl rfl ?_
        refine rx_getR C (k := 1) sx_5 fc_X5 (by decide) rfl lk_X5_15 dX5_newLaw_68 ?_
        refine rx_ltr (fun g26 => ?_)
        refine rx_if (fun hg26 => ?_) (fun _ => rx_none)
        refine rx_getC C (k := 3) (ld_sh (landB_is hg26)) fc_X4 (by decide) (g26 + 10) rfl lk_X5_141 dX5_newLaw_71 ?_
        refine rx_iload_n C 0 dX5_newLaw_74 rfl rfl ?_
        refine rx_iconst C dX5_newLaw_75 ic_1 ?_
        refine rx_aload_n C 1 dX5_newLaw_76 rfl rfl ?_
        refine rx_getR C (k := 1) sx_5 fc_X5 (by decide) rfl lk_X5_15 dX5_newLaw_77 ?_
        refine rx_ltr (fun g27 => ?_)
        refine rx_if (fun hg27 => ?_) (fun _ => rx_none)
        refine rx_getI C (k := 9) (ld_sh (landB_is hg27)) fc_X4 (by decide) rfl lk_X5_144 dX5_newLaw_80 ?_
        refine rx_callVv C [.int q20.1, .int (1 : Int32), .int (gI q25.2 g27 9)] [] (m_X8_put z.l C.inj (g26 + 10) (ld_10 (landB_is hg26)) q20.1 (1 : Int32) (gI q25.2 g27 9) q25.2) mv_X8_put lk_X5_147 (ro_sh (ld_10 (landB_is hg26))) rfl rfl rfl (Nat.le_of_ble_eq_true rfl) ⟨Nat.le_of_ble_eq_true rfl, Nat.le_of_ble_eq_true rfl⟩ dX5_newLaw_83 (fun q28 => ?_)
        refine rx_aload_n C 1 dX5_newLaw_86 rfl rfl ?_
        refine rx_iconst C dX5_newLaw_87 ic_0 ?_
        refine rx_callVi C [.int (0 : Int32)] [] (m_X5_test z.l C.inj 24 (0 : Int32) q28.2) mv_X5_test lk_X5_154 sx_5 rfl rfl rfl (Nat.le_of_ble_eq_true rfl) ⟨Nat.le_of_ble_eq_true rfl, Nat.le_of_ble_eq_true rfl⟩ dX5_newLaw_88 (fun q29 => ?_)
        refine rx_if_ne C (tgt := 96) dX5_newLaw_91 (by decide) (fun _ => ?_) (fun _ => ?_)
        · refine rx_iconst C dX5_newLaw_94 ic_0 ?_
          exact rx_zretC C dX5_newLaw_95 rfl
        · refine rx_aload_n C 1 dX5_newLaw_96 rfl rfl ?_
          refine rx_getR C (k := 1) sx_5 fc_X5 (by decide) rfl lk_X5_15 dX5_newLaw_97 ?_
          refine rx_ltr (fun g30 => ?_)
          refine rx_if (fun hg30 => ?_) (fun _ => rx_none)
          refine rx_getC C (k := 3) (ld_sh (landB_is hg30)) fc_X4 (by decide) (g30 + 10) rfl lk_X5_141 dX5_newLaw_100 ?_
          refine rx_iload_n C 0 dX5_newLaw_103 rfl rfl ?_
          refine rx_iconst C dX5_newLaw_104 ic_2 ?_
          refine rx_aload_n C 1 dX5_newLaw_105 rfl rfl ?_
          refine rx_getR C (k := 1) sx_5 fc_X5 (by decide) rfl lk_X5_15 dX5_newLaw_106 ?_
          refine rx_ltr (fun g31 => ?_)
          refine rx_if (fun hg31 => ?_) (fun _ => rx_none)
          refine rx_getI C (k := 9) (ld_sh (landB_is hg31)) fc_X4 (by decide) rfl lk_X5_144 dX5_newLaw_109 ?_
          refine rx_callVv C [.int q20.1, .int (2 : Int32), .int (gI q29.2 g31 9)] [] (m_X8_put z.l C.inj (g30 + 10) (ld_10 (landB_is hg30)) q20.1 (2 : Int32) (gI q29.2 g31 9) q29.2) mv_X8_put lk_X5_147 (ro_sh (ld_10 (landB_is hg30))) rfl rfl rfl (Nat.le_of_ble_eq_true rfl) ⟨Nat.le_of_ble_eq_true rfl, Nat.le_of_ble_eq_true rfl⟩ dX5_newLaw_112 (fun q32 => ?_)
          refine rx_iconst C dX5_newLaw_115 ic_1 ?_
          exact rx_zretC C dX5_newLaw_116 rfl
theorem m_X5_newLaw (l : Launch) {α : Nat → Nat} {D : va_G} {cA : Nat → ClassId} (hin : inj shX.length α) (σ : St) : CT shX l yX5_newLaw cX5_newLaw 2 (some .boolean) 173 3976 emI α D cA [.ref (α 5)] σ (f_X5_newLaw σ) := ct_of rfl (Nat.le_of_ble_eq_true rfl) hin (fun z _ C => w_X5_newLaw_e C σ)
set_option maxRecDepth 100000 in
set_option maxHeartbeats 4000000 in
theorem w_X5_newPerson_139 {α : Nat → Nat} {D : va_G} {cA : Nat → ClassId} {z : Cz} (C : CX shX α D cA z RX5 cX5_newPerson 1 (some .boolean) 3 66) (s0 : Int32) (σ : St) : RX emI shX α D cA z 1 σ 139 [] [.int s0] (f_X5_newPerson_139 s0 σ) := by
  unfold f_X5_newPerson_139
  exact rx_zret C dX5_newPerson_139
set_option maxRecDepth 100000 in
set_option maxHeartbeats 4000000 in
theorem w_X5_newPerson_138 {α : Nat → Nat} {D : va_G} {cA : Nat → ClassId} {z : Cz} (C : CX shX α D cA z RX5 cX5_newPerson 1 (some .boolean) 3 66) (σ : St) : RX emI shX α D cA z 1 σ 138 [] [] (f_X5_newPerson_138 σ) := by
  unfold f_X5_newPerson_138
  refine rx_iconst C dX5_newPerson_138 ic_0 ?_
  exact RX.loc (w_X5_newPerson_139 C (0 : Int32) σ) [] rfl
set_option maxRecDepth 100000 in
set_option maxHeartbeats 4000000 in
theorem w_X5_newPerson_e {α : Nat → Nat} {D : va_G} {cA : Nat → ClassId} {z : Cz} (C : CX shX α D cA z RX5 cX5_newPerson 1 (some .boolean) 3 66) (σ : St) : RX emI shX α D cA z 1 σ 0 [(0, .ref (α 5))] [] (f_X5_newPerson σ) := by
  unfold f_X5_newPerson
  refine rx_aload_n C 0 dX5_newPerson_0 rfl rfl ?_
  refine rx_aload_n C 0 dX5_newPerson_1 rfl rfl ?_
  refine rx_getR C (k := 1) sx_5 fc_X5 (by decide) rfl lk_X5_15 dX5_newPerson_2 ?_
  refine rx_ltr (fun g17 => ?_)
  refine rx_if (fun hg17 => ?_) (fun _ => rx_none)
  refine rx_getC C (k := 0) (ld_sh (landB_is hg17)) fc_X4 (by decide) (g17 + 1) rfl lk_X5_92 dX5_newPerson_5 ?_
  refine rx_callVi C [.ref (α (g17 + 1))] [] (m_X5_begin z.l C.inj (g17 + 1) (ld_1 (landB_is hg17)) σ) mv_X5_begin lk_X5_96 sx_5 rfl rfl rfl (Nat.le_of_ble_eq_true rfl) ⟨Nat.le_of_ble_eq_true rfl, Nat.le_of_ble_eq_true rfl⟩ dX5_newPerson_8 (fun q18 => ?_)
  refine rx_if_eq C (tgt := 138) dX5_newPerson_11 (by decide) (fun _ => ?_) (fun _ => ?_)
  · exact RX.loc (w_X5_newPerson_138 C q18.2) [] rfl
  · refine rx_aload_n C 0 dX5_newPerson_14 rfl rfl ?_
    refine rx_aload_n C 0 dX5_newPerson_15 rfl rfl ?_
    refine rx_getR C (k := 1) sx_5 fc_X5 (by decide) rfl lk_X5_15 dX5_newPerson_16 ?_
    refine rx_ltr (fun g19 => ?_)
    refine rx_if (fun hg19 => ?_) (fun _ => rx_none)
    refine rx_getC C (k := 0) (ld_sh (landB_is hg19)) fc_X4 (by decide) (g19 + 1) rfl lk_X5_92 dX5_newPerson_19 ?_
    refine rx_callVi C [.ref (α (g19 + 1))] [] (m_X5_newName z.l C.inj (g19 + 1) (ld_1 (landB_is hg19)) q18.2) mv_X5_newName lk_X5_100 sx_5 rfl rfl rfl (Nat.le_of_ble_eq_true rfl) ⟨Nat.le_of_ble_eq_true rfl, Nat.le_of_ble_eq_true rfl⟩ dX5_newPerson_22 (fun q20 => ?_)
    refine rx_if_eq C (tgt := 138) dX5_newPerson_25 (by decide) (fun _ => ?_) (fun _ => ?_)
    · exact RX.loc (w_X5_newPerson_138 C q20.2) [] rfl
    · refine rx_aload_n C 0 dX5_newPerson_28 rfl rfl ?_
      refine rx_sipush C dX5_newPerson_29 sp_402 ?_
      refine rx_callVi C [.int (402 : Int32)] [] (m_X5_token z.l C.inj (402 : Int32) q20.2) mv_X5_token lk_X5_66 sx_5 rfl rfl rfl (Nat.le_of_ble_eq_true rfl) ⟨Nat.le_of_ble_eq_true rfl, Nat.le_of_ble_eq_true rfl⟩ dX5_newPerson_32 (fun q21 => ?_)
      refine rx_if_eq C (tgt := 138) dX5_newPerson_35 (by decide) (fun _ => ?_) (fun _ => ?_)
      · exact RX.loc (w_X5_newPerson_138 C q21.2) [] rfl
      · refine rx_aload_n C 0 dX5_newPerson_38 rfl rfl ?_
        refine rx_iconst C dX5_newPerson_39 ic_0 ?_
        refine rx_bipush C dX5_newPerson_40 bp_99 ?_
        refine rx_callVi C [.int (0 : Int32), .int (99 : Int32)] [] (m_X5_number z.l C.inj (0 : Int32) (99 : Int32) q21.2) mv_X5_number lk_X5_78 sx_5 rfl rfl rfl (Nat.le_of_ble_eq_true rfl) ⟨Nat.le_of_ble_eq_true rfl, Nat.le_of_ble_eq_true rfl⟩ dX5_newPerson_42 (fun q22 => ?_)
        refine rx_if_eq C (tgt := 138) dX5_newPerson_45 (by decide) (fun _ => ?_) (fun _ => ?_)
        · exact RX.loc (w_X5_newPerson_138 C q22.2) [] rfl
        · refine rx_aload_n C 0 dX5_newPerson_48 rfl rfl ?_
          refine rx_aload_n C 0 dX5_newPerson_49 rfl rfl ?_
          refine rx_getR C (k := 1) sx_5 fc_X5 (by decide) rfl lk_X5_15 dX5_newPerson_50 ?_
          refine rx_ltr (fun g23 => ?_)
          refine rx_if (fun hg23 => ?_) (fun _ => rx_none)
          refine rx_getC C (k := 0) (ld_sh (landB_is hg23)) fc_X4 (by decide) (g23 + 1) rfl lk_X5_92 dX5_newPerson_53 ?_
          refine rx_iconst C dX5_newPerson_56 ic_0 ?_
          refine rx_callVi C [.ref (α (g23 + 1)), .int (0 : Int32)] [] (m_X5_keep z.l C.inj (g23 + 1) (ld_1 (landB_is hg23)) (0 : Int32) q22.2) mv_X5_keep lk_X5_103 sx_5 rfl rfl rfl (Nat.le_of_ble_eq_true rfl) ⟨Nat.le_of_ble_eq_true rfl, Nat.le_of_ble_eq_true rfl⟩ dX5_newPerson_57 (fun q24 => ?_)
          refine rx_if_eq C (tgt := 138) dX5_newPerson_60 (by decide) (fun _ => ?_) (fun _ => ?_)
          · exact RX.loc (w_X5_newPerson_138 C q24.2) [] rfl
          · refine rx_aload_n C 0 dX5_newPerson_63 rfl rfl ?_
            refine rx_sipush C dX5_newPerson_64 sp_403 ?_
            refine rx_callVi C [.int (403 : Int32)] [] (m_X5_token z.l C.inj (403 : Int32) q24.2) mv_X5_token lk_X5_66 sx_5 rfl rfl rfl (Nat.le_of_ble_eq_true rfl) ⟨Nat.le_of_ble_eq_true rfl, Nat.le_of_ble_eq_true rfl⟩ dX5_newPerson_67 (fun q25 => ?_)
            refine rx_if_eq C (tgt := 138) dX5_newPerson_70 (by decide) (fun _ => ?_) (fun _ => ?_)
            · exact RX.loc (w_X5_newPerson_138 C q25.2) [] rfl
            · refine rx_aload_n C 0 dX5_newPerson_73 rfl rfl ?_
              refine rx_iconst C dX5_newPerson_74 ic_0 ?_
              refine rx_sipush C dX5_newPerson_75 sp_999 ?_
              refine rx_callVi C [.int (0 : Int32), .int (999 : Int32)] [] (m_X5_number z.l C.inj (0 : Int32) (999 : Int32) q25.2) mv_X5_number lk_X5_78 sx_5 rfl rfl rfl (Nat.le_of_ble_eq_true rfl) ⟨Nat.le_of_ble_eq_true rfl, Nat.le_of_ble_eq_true rfl⟩ dX5_newPerson_78 (fun q26 => ?_)
              refine rx_if_eq C (tgt := 138) dX5_newPerson_81 (by decide) (fun _ => ?_) (fun _ => ?_)
              · exact RX.loc (w_X5_newPerson_138 C q26.2) [] rfl
              · refine rx_aload_n C 0 dX5_newPerson_84 rfl rfl ?_
                refine rx_aload_n C 0 dX5_newPerson_85 rfl rfl ?_
                refine rx_getR C (k := 1) sx_5 fc_X5 (by decide) rfl lk_X5_15 dX5_newPerson_86 ?_
                refine rx_ltr (fun g27 => ?_)
                refine rx_if (fun hg27 => ?_) (fun _ => rx_none)
                refine rx_getC C (k := 0) (ld_sh (landB_is hg27)) fc_X4 (by decide) (g27 + 1) rfl lk_X5_92 dX5_newPerson_89 ?_
                refine rx_iconst C dX5_newPerson_92 ic_1 ?_
                refine rx_callVi C [.ref (α (g27 + 1)), .int (1 : Int32)] [] (m_X5_keep z.l C.inj (g27 + 1) (ld_1 (landB_is hg27)) (1 : Int32) q26.2) mv_X5_keep lk_X5_103 sx_5 rfl rfl rfl (Nat.le_of_ble_eq_true rfl) ⟨Nat.le_of_ble_eq_true rfl, Nat.le_of_ble_eq_true rfl⟩ dX5_newPerson_93 (fun q28 => ?_)
                refine rx_if_eq C (tgt := 138) dX5_newPerson_96 (by decide) (fun _ => ?_) (fun _ => ?_)
                · exact RX.loc (w_X5_newPerson_138 C q28.2) [] rfl
                · refine rx_aload_n C 0 dX5_newPerson_99 rfl rfl ?_
                  refine rx_sipush C dX5_newPerson_100 sp_404 ?_
                  refine rx_callVi C [.int (404 : Int32)] [] (m_X5_token z.l C.inj (404 : Int32) q28.2) mv_X5_token lk_X5_66 sx_5 rfl rfl rfl (Nat.le_of_ble_eq_true rfl) ⟨Nat.le_of_ble_eq_true rfl, Nat.le_of_ble_eq_true rfl⟩ dX5_newPerson_103 (fun q29 => ?_)
                  refine rx_if_eq C (tgt := 138) dX5_newPerson_106 (by decide) (fun _ => ?_) (fun _ => ?_)
                  · exact RX.loc (w_X5_newPerson_138 C q29.2) [] rfl
                  · refine rx_aload_n C 0 dX5_newPerson_109 rfl rfl ?_
                    refine rx_iconst C dX5_newPerson_110 ic_0 ?_
                    refine rx_bipush C dX5_newPerson_111 bp_100 ?_
                    refine rx_callVi C [.int (0 : Int32), .int (100 : Int32)] [] (m_X5_number z.l C.inj (0 : Int32) (100 : Int32) q29.2) mv_X5_number lk_X5_78 sx_5 rfl rfl rfl (Nat.le_of_ble_eq_true rfl) ⟨Nat.le_of_ble_eq_true rfl, Nat.le_of_ble_eq_true rfl⟩ dX5_newPerson_113 (fun q30 => ?_)
                    refine rx_if_eq C (tgt := 138) dX5_newPerson_116 (by decide) (fun _ => ?_) (fun _ => ?_)
                    · exact RX.loc (w_X5_newPerson_138 C q30.2) [] rfl
                    · refine rx_aload_n C 0 dX5_newPerson_119 rfl rfl ?_
                      refine rx_aload_n C 0 dX5_newPerson_120 rfl rfl ?_
                      refine rx_getR C (k := 1) sx_5 fc_X5 (by decide) rfl lk_X5_15 dX5_newPerson_121 ?_
                      refine rx_ltr (fun g31 => ?_)
                      refine rx_if (fun hg31 => ?_) (fun _ => rx_none)
                      refine rx_getC C (k := 0) (ld_sh (landB_is hg31)) fc_X4 (by decide) (g31 + 1) rfl lk_X5_92 dX5_newPerson_124 ?_
                      refine rx_iconst C dX5_newPerson_127 ic_2 ?_
                      refine rx_callVi C [.ref (α (g31 + 1)), .int (2 : Int32)] [] (m_X5_keep z.l C.inj (g31 + 1) (ld_1 (landB_is hg31)) (2 : Int32) q30.2) mv_X5_keep lk_X5_103 sx_5 rfl rfl rfl (Nat.le_of_ble_eq_true rfl) ⟨Nat.le_of_ble_eq_true rfl, Nat.le_of_ble_eq_true rfl⟩ dX5_newPerson_128 (fun q32 => ?_)
                      refine rx_if_eq C (tgt := 138) dX5_newPerson_131 (by decide) (fun _ => ?_) (fun _ => ?_)
                      · exact RX.loc (w_X5_newPerson_138 C q32.2) [] rfl
                      · refine rx_iconst C dX5_newPerson_134 ic_1 ?_
                        refine rx_goto C (tgt := 139) dX5_newPerson_135 (by decide) ?_
                        exact RX.loc (w_X5_newPerson_139 C (1 : Int32) q32.2) [] rfl
theorem m_X5_newPerson (l : Launch) {α : Nat → Nat} {D : va_G} {cA : Nat → ClassId} (hin : inj shX.length α) (σ : St) : CT shX l yX5_newPerson cX5_newPerson 1 (some .boolean) 3 66 emI α D cA [.ref (α 5)] σ (f_X5_newPerson σ) := ct_of rfl (Nat.le_of_ble_eq_true rfl) hin (fun z _ C => w_X5_newPerson_e C σ)
set_option maxRecDepth 100000 in
set_option maxHeartbeats 4000000 in
theorem w_X5_newTitle_69 {α : Nat → Nat} {D : va_G} {cA : Nat → ClassId} {z : Cz} (C : CX shX α D cA z RX5 cX5_newTitle 1 (some .boolean) 3 66) (s0 : Int32) (σ : St) : RX emI shX α D cA z 1 σ 69 [] [.int s0] (f_X5_newTitle_69 s0 σ) := by
  unfold f_X5_newTitle_69
  exact rx_zret C dX5_newTitle_69
set_option maxRecDepth 100000 in
set_option maxHeartbeats 4000000 in
theorem w_X5_newTitle_68 {α : Nat → Nat} {D : va_G} {cA : Nat → ClassId} {z : Cz} (C : CX shX α D cA z RX5 cX5_newTitle 1 (some .boolean) 3 66) (σ : St) : RX emI shX α D cA z 1 σ 68 [] [] (f_X5_newTitle_68 σ) := by
  unfold f_X5_newTitle_68
  refine rx_iconst C dX5_newTitle_68 ic_0 ?_
  exact RX.loc (w_X5_newTitle_69 C (0 : Int32) σ) [] rfl
set_option maxRecDepth 100000 in
set_option maxHeartbeats 4000000 in
theorem w_X5_newTitle_e {α : Nat → Nat} {D : va_G} {cA : Nat → ClassId} {z : Cz} (C : CX shX α D cA z RX5 cX5_newTitle 1 (some .boolean) 3 66) (σ : St) : RX emI shX α D cA z 1 σ 0 [(0, .ref (α 5))] [] (f_X5_newTitle σ) := by
  unfold f_X5_newTitle
  refine rx_aload_n C 0 dX5_newTitle_0 rfl rfl ?_
  refine rx_aload_n C 0 dX5_newTitle_1 rfl rfl ?_
  refine rx_getR C (k := 1) sx_5 fc_X5 (by decide) rfl lk_X5_15 dX5_newTitle_2 ?_
  refine rx_ltr (fun g9 => ?_)
  refine rx_if (fun hg9 => ?_) (fun _ => rx_none)
  refine rx_getC C (k := 1) (ld_sh (landB_is hg9)) fc_X4 (by decide) (g9 + 4) rfl lk_X5_107 dX5_newTitle_5 ?_
  refine rx_callVi C [.ref (α (g9 + 4))] [] (m_X5_begin z.l C.inj (g9 + 4) (ld_4 (landB_is hg9)) σ) mv_X5_begin lk_X5_96 sx_5 rfl rfl rfl (Nat.le_of_ble_eq_true rfl) ⟨Nat.le_of_ble_eq_true rfl, Nat.le_of_ble_eq_true rfl⟩ dX5_newTitle_8 (fun q10 => ?_)
  refine rx_if_eq C (tgt := 68) dX5_newTitle_11 (by decide) (fun _ => ?_) (fun _ => ?_)
  · exact RX.loc (w_X5_newTitle_68 C q10.2) [] rfl
  · refine rx_aload_n C 0 dX5_newTitle_14 rfl rfl ?_
    refine rx_aload_n C 0 dX5_newTitle_15 rfl rfl ?_
    refine rx_getR C (k := 1) sx_5 fc_X5 (by decide) rfl lk_X5_15 dX5_newTitle_16 ?_
    refine rx_ltr (fun g11 => ?_)
    refine rx_if (fun hg11 => ?_) (fun _ => rx_none)
    refine rx_getC C (k := 1) (ld_sh (landB_is hg11)) fc_X4 (by decide) (g11 + 4) rfl lk_X5_107 dX5_newTitle_19 ?_
    refine rx_callVi C [.ref (α (g11 + 4))] [] (m_X5_newName z.l C.inj (g11 + 4) (ld_4 (landB_is hg11)) q10.2) mv_X5_newName lk_X5_100 sx_5 rfl rfl rfl (Nat.le_of_ble_eq_true rfl) ⟨Nat.le_of_ble_eq_true rfl, Nat.le_of_ble_eq_true rfl⟩ dX5_newTitle_22 (fun q12 => ?_)
    refine rx_if_eq C (tgt := 68) dX5_newTitle_25 (by decide) (fun _ => ?_) (fun _ => ?_)
    · exact RX.loc (w_X5_newTitle_68 C q12.2) [] rfl
    · refine rx_aload_n C 0 dX5_newTitle_28 rfl rfl ?_
      refine rx_sipush C dX5_newTitle_29 sp_406 ?_
      refine rx_callVi C [.int (406 : Int32)] [] (m_X5_token z.l C.inj (406 : Int32) q12.2) mv_X5_token lk_X5_66 sx_5 rfl rfl rfl (Nat.le_of_ble_eq_true rfl) ⟨Nat.le_of_ble_eq_true rfl, Nat.le_of_ble_eq_true rfl⟩ dX5_newTitle_32 (fun q13 => ?_)
      refine rx_if_eq C (tgt := 68) dX5_newTitle_35 (by decide) (fun _ => ?_) (fun _ => ?_)
      · exact RX.loc (w_X5_newTitle_68 C q13.2) [] rfl
      · refine rx_aload_n C 0 dX5_newTitle_38 rfl rfl ?_
        refine rx_iconst C dX5_newTitle_39 ic_0 ?_
        refine rx_sipush C dX5_newTitle_40 sp_999 ?_
        refine rx_callVi C [.int (0 : Int32), .int (999 : Int32)] [] (m_X5_number z.l C.inj (0 : Int32) (999 : Int32) q13.2) mv_X5_number lk_X5_78 sx_5 rfl rfl rfl (Nat.le_of_ble_eq_true rfl) ⟨Nat.le_of_ble_eq_true rfl, Nat.le_of_ble_eq_true rfl⟩ dX5_newTitle_43 (fun q14 => ?_)
        refine rx_if_eq C (tgt := 68) dX5_newTitle_46 (by decide) (fun _ => ?_) (fun _ => ?_)
        · exact RX.loc (w_X5_newTitle_68 C q14.2) [] rfl
        · refine rx_aload_n C 0 dX5_newTitle_49 rfl rfl ?_
          refine rx_aload_n C 0 dX5_newTitle_50 rfl rfl ?_
          refine rx_getR C (k := 1) sx_5 fc_X5 (by decide) rfl lk_X5_15 dX5_newTitle_51 ?_
          refine rx_ltr (fun g15 => ?_)
          refine rx_if (fun hg15 => ?_) (fun _ => rx_none)
          refine rx_getC C (k := 1) (ld_sh (landB_is hg15)) fc_X4 (by decide) (g15 + 4) rfl lk_X5_107 dX5_newTitle_54 ?_
          refine rx_iconst C dX5_newTitle_57 ic_0 ?_
          refine rx_callVi C [.ref (α (g15 + 4)), .int (0 : Int32)] [] (m_X5_keep z.l C.inj (g15 + 4) (ld_4 (landB_is hg15)) (0 : Int32) q14.2) mv_X5_keep lk_X5_103 sx_5 rfl rfl rfl (Nat.le_of_ble_eq_true rfl) ⟨Nat.le_of_ble_eq_true rfl, Nat.le_of_ble_eq_true rfl⟩ dX5_newTitle_58 (fun q16 => ?_)
          refine rx_if_eq C (tgt := 68) dX5_newTitle_61 (by decide) (fun _ => ?_) (fun _ => ?_)
          · exact RX.loc (w_X5_newTitle_68 C q16.2) [] rfl
          · refine rx_iconst C dX5_newTitle_64 ic_1 ?_
            refine rx_goto C (tgt := 69) dX5_newTitle_65 (by decide) ?_
            exact RX.loc (w_X5_newTitle_69 C (1 : Int32) q16.2) [] rfl
theorem m_X5_newTitle (l : Launch) {α : Nat → Nat} {D : va_G} {cA : Nat → ClassId} (hin : inj shX.length α) (σ : St) : CT shX l yX5_newTitle cX5_newTitle 1 (some .boolean) 3 66 emI α D cA [.ref (α 5)] σ (f_X5_newTitle σ) := ct_of rfl (Nat.le_of_ble_eq_true rfl) hin (fun z _ C => w_X5_newTitle_e C σ)
set_option maxRecDepth 100000 in
set_option maxHeartbeats 4000000 in
theorem w_X5_knownName_e {α : Nat → Nat} {D : va_G} {cA : Nat → ClassId} {z : Cz} (C : CX shX α D cA z RX5 cX5_knownName 2 (some .boolean) 2 44) (r1 : Nat) (hr1 : isRoll r1) (σ : St) : RX emI shX α D cA z 2 σ 0 [(0, .ref (α 5)), (1, .ref (α r1))] [] (f_X5_knownName r1 σ) := by
  unfold f_X5_knownName
  refine rx_aload_n C 0 dX5_knownName_0 rfl rfl ?_
  refine rx_getC C (k := 0) sx_5 fc_X5 (by decide) 3 rfl lk_X5_9 dX5_knownName_1 ?_
  refine rx_callVi C [] [] (m_X6_look z.l C.inj σ) mv_X6_look lk_X5_28 sx_3 rfl rfl rfl (Nat.le_of_ble_eq_true rfl) ⟨Nat.le_of_ble_eq_true rfl, Nat.le_of_ble_eq_true rfl⟩ dX5_knownName_4 (fun q7 => ?_)
  refine rx_sipush C dX5_knownName_7 sp_300 ?_
  refine rx_icmp_eq C (tgt := 22) dX5_knownName_10 (by decide) (fun _ => ?_) (fun _ => ?_)
  · refine rx_aload_n C 0 dX5_knownName_22 rfl rfl ?_
    refine rx_aload_n C 1 dX5_knownName_23 rfl rfl ?_
    refine rx_aload_n C 0 dX5_knownName_24 rfl rfl ?_
    refine rx_getC C (k := 0) sx_5 fc_X5 (by decide) 3 rfl lk_X5_9 dX5_knownName_25 ?_
    refine rx_getI C (k := 6) sx_3 fc_X6 (by decide) rfl lk_X5_116 dX5_knownName_28 ?_
    refine rx_callVi C [.int (gI q7.2 3 6)] [.ref (α 5)] (m_X8_find z.l C.inj r1 hr1 (gI q7.2 3 6) q7.2) mv_X8_find lk_X5_119 (ro_sh hr1) rfl rfl rfl (Nat.le_of_ble_eq_true rfl) ⟨Nat.le_of_ble_eq_true rfl, Nat.le_of_ble_eq_true rfl⟩ dX5_knownName_31 (fun q8 => ?_)
    refine rx_putI C (k := 2) sx_5 fc_X5 (by decide) rfl lk_X5_19 rfl ⟨rfl, rfl⟩ dX5_knownName_34 ?_
    refine rx_lts (fun σ9 => ?_)
    refine rx_aload_n C 0 dX5_knownName_37 rfl rfl ?_
    refine rx_getI C (k := 2) sx_5 fc_X5 (by decide) rfl lk_X5_19 dX5_knownName_38 ?_
    refine rx_iconst C dX5_knownName_41 ic_m1 ?_
    refine rx_icmp_ne C (tgt := 54) dX5_knownName_42 (by decide) (fun _ => ?_) (fun _ => ?_)
    · refine rx_aload_n C 0 dX5_knownName_45 rfl rfl ?_
      refine rx_getC C (k := 0) sx_5 fc_X5 (by decide) 3 rfl lk_X5_9 dX5_knownName_46 ?_
      refine rx_iconst C dX5_knownName_49 ic_3 ?_
      refine rx_callVi C [.int (3 : Int32)] [] (m_X6_failHere z.l C.inj (3 : Int32) σ9) mv_X6_failHere lk_X5_62 sx_3 rfl rfl rfl (Nat.le_of_ble_eq_true rfl) ⟨Nat.le_of_ble_eq_true rfl, Nat.le_of_ble_eq_true rfl⟩ dX5_knownName_50 (fun q10 => ?_)
      exact rx_zret C dX5_knownName_53
    · refine rx_aload_n C 0 dX5_knownName_54 rfl rfl ?_
      refine rx_getC C (k := 0) sx_5 fc_X5 (by decide) 3 rfl lk_X5_9 dX5_knownName_55 ?_
      refine rx_callVv C [] [] (m_X6_skip z.l C.inj σ9) mv_X6_skip lk_X5_72 sx_3 rfl rfl rfl (Nat.le_of_ble_eq_true rfl) ⟨Nat.le_of_ble_eq_true rfl, Nat.le_of_ble_eq_true rfl⟩ dX5_knownName_58 (fun q11 => ?_)
      refine rx_iconst C dX5_knownName_61 ic_1 ?_
      exact rx_zretC C dX5_knownName_62 rfl
  · refine rx_aload_n C 0 dX5_knownName_13 rfl rfl ?_
    refine rx_getC C (k := 0) sx_5 fc_X5 (by decide) 3 rfl lk_X5_9 dX5_knownName_14 ?_
    refine rx_iconst C dX5_knownName_17 ic_1 ?_
    refine rx_callVi C [.int (1 : Int32)] [] (m_X6_failHere z.l C.inj (1 : Int32) q7.2) mv_X6_failHere lk_X5_62 sx_3 rfl rfl rfl (Nat.le_of_ble_eq_true rfl) ⟨Nat.le_of_ble_eq_true rfl, Nat.le_of_ble_eq_true rfl⟩ dX5_knownName_18 (fun q12 => ?_)
    exact rx_zret C dX5_knownName_21
theorem m_X5_knownName (l : Launch) {α : Nat → Nat} {D : va_G} {cA : Nat → ClassId} (hin : inj shX.length α) (r1 : Nat) (hr1 : isRoll r1) (σ : St) : CT shX l yX5_knownName cX5_knownName 2 (some .boolean) 2 44 emI α D cA [.ref (α 5), .ref (α r1)] σ (f_X5_knownName r1 σ) := ct_of rfl (Nat.le_of_ble_eq_true rfl) hin (fun z _ C => w_X5_knownName_e C r1 hr1 σ)
set_option maxRecDepth 100000 in
set_option maxHeartbeats 4000000 in
theorem w_X5_titleHad_89 {α : Nat → Nat} {D : va_G} {cA : Nat → ClassId} {z : Cz} (C : CX shX α D cA z RX5 cX5_titleHad 3 (some .boolean) 3 65) (σ : St) : RX emI shX α D cA z 3 σ 89 [(0, .ref (α 5))] [] (f_X5_titleHad_89 σ) := by
  unfold f_X5_titleHad_89
  refine rx_aload_n C 0 dX5_titleHad_89 rfl rfl ?_
  refine rx_getC C (k := 0) sx_5 fc_X5 (by decide) 3 rfl lk_X5_9 dX5_titleHad_90 ?_
  refine rx_iconst C dX5_titleHad_93 ic_3 ?_
  refine rx_callVi C [.int (3 : Int32)] [] (m_X6_failHere z.l C.inj (3 : Int32) σ) mv_X6_failHere lk_X5_62 sx_3 rfl rfl rfl (Nat.le_of_ble_eq_true rfl) ⟨Nat.le_of_ble_eq_true rfl, Nat.le_of_ble_eq_true rfl⟩ dX5_titleHad_94 (fun q21 => ?_)
  exact rx_zret C dX5_titleHad_97
set_option maxRecDepth 100000 in
set_option maxHeartbeats 4000000 in
theorem w_X5_titleHad_e {α : Nat → Nat} {D : va_G} {cA : Nat → ClassId} {z : Cz} (C : CX shX α D cA z RX5 cX5_titleHad 3 (some .boolean) 3 65) (σ : St) : RX emI shX α D cA z 3 σ 0 [(0, .ref (α 5))] [] (f_X5_titleHad σ) := by
  unfold f_X5_titleHad
  refine rx_aload_n C 0 dX5_titleHad_0 rfl rfl ?_
  refine rx_getC C (k := 0) sx_5 fc_X5 (by decide) 3 rfl lk_X5_9 dX5_titleHad_1 ?_
  refine rx_callVv C [] [] (m_X6_skip z.l C.inj σ) mv_X6_skip lk_X5_72 sx_3 rfl rfl rfl (Nat.le_of_ble_eq_true rfl) ⟨Nat.le_of_ble_eq_true rfl, Nat.le_of_ble_eq_true rfl⟩ dX5_titleHad_4 (fun q14 => ?_)
  refine rx_aload_n C 0 dX5_titleHad_7 rfl rfl ?_
  refine rx_aload_n C 0 dX5_titleHad_8 rfl rfl ?_
  refine rx_getR C (k := 1) sx_5 fc_X5 (by decide) rfl lk_X5_15 dX5_titleHad_9 ?_
  refine rx_ltr (fun g15 => ?_)
  refine rx_if (fun hg15 => ?_) (fun _ => rx_none)
  refine rx_getC C (k := 0) (ld_sh (landB_is hg15)) fc_X4 (by decide) (g15 + 1) rfl lk_X5_92 dX5_titleHad_12 ?_
  refine rx_callVi C [.ref (α (g15 + 1))] [] (m_X5_knownName z.l C.inj (g15 + 1) (ld_1 (landB_is hg15)) q14.2) mv_X5_knownName lk_X5_113 sx_5 rfl rfl rfl (Nat.le_of_ble_eq_true rfl) ⟨Nat.le_of_ble_eq_true rfl, Nat.le_of_ble_eq_true rfl⟩ dX5_titleHad_15 (fun q16 => ?_)
  refine rx_if_ne C (tgt := 23) dX5_titleHad_18 (by decide) (fun _ => ?_) (fun _ => ?_)
  · refine rx_iconst C dX5_titleHad_21 ic_0 ?_
    exact rx_zretC C dX5_titleHad_22 rfl
  · refine rx_aload_n C 0 dX5_titleHad_23 rfl rfl ?_
    refine rx_getI C (k := 2) sx_5 fc_X5 (by decide) rfl lk_X5_19 dX5_titleHad_24 ?_
    refine rx_lti (fun w17 => ?_)
    refine rx_istore_n C [(1, .int w17), (0, .ref (α 5))] dX5_titleHad_27 rfl (by decide) rfl ?_
    refine rx_aload_n C 1 dX5_titleHad_28 rfl rfl ?_
    refine rx_getC C (k := 0) sx_5 fc_X5 (by decide) 3 rfl lk_X5_9 dX5_titleHad_29 ?_
    refine rx_callVi C [] [] (m_X6_look z.l C.inj q16.2) mv_X6_look lk_X5_28 sx_3 rfl rfl rfl (Nat.le_of_ble_eq_true rfl) ⟨Nat.le_of_ble_eq_true rfl, Nat.le_of_ble_eq_true rfl⟩ dX5_titleHad_32 (fun q18 => ?_)
    refine rx_sipush C dX5_titleHad_35 sp_300 ?_
    refine rx_icmp_eq C (tgt := 50) dX5_titleHad_38 (by decide) (fun _ => ?_) (fun _ => ?_)
    · refine rx_aload_n C 1 dX5_titleHad_50 rfl rfl ?_
      refine rx_getR C (k := 1) sx_5 fc_X5 (by decide) rfl lk_X5_15 dX5_titleHad_51 ?_
      refine rx_ltr (fun g19 => ?_)
      refine rx_if (fun hg19 => ?_) (fun _ => rx_none)
      refine rx_getC C (k := 1) (ld_sh (landB_is hg19)) fc_X4 (by decide) (g19 + 4) rfl lk_X5_107 dX5_titleHad_54 ?_
      refine rx_aload_n C 1 dX5_titleHad_57 rfl rfl ?_
      refine rx_getC C (k := 0) sx_5 fc_X5 (by decide) 3 rfl lk_X5_9 dX5_titleHad_58 ?_
      refine rx_getI C (k := 6) sx_3 fc_X6 (by decide) rfl lk_X5_116 dX5_titleHad_61 ?_
      refine rx_callVi C [.int (gI q18.2 3 6)] [] (m_X8_find z.l C.inj (g19 + 4) (ld_4 (landB_is hg19)) (gI q18.2 3 6) q18.2) mv_X8_find lk_X5_119 (ro_sh (ld_4 (landB_is hg19))) rfl rfl rfl (Nat.le_of_ble_eq_true rfl) ⟨Nat.le_of_ble_eq_true rfl, Nat.le_of_ble_eq_true rfl⟩ dX5_titleHad_64 (fun q20 => ?_)
      refine rx_istore_n C [(2, .int q20.1), (1, .int w17), (0, .ref (α 5))] dX5_titleHad_67 rfl (by decide) rfl ?_
      refine rx_iload_n C 0 dX5_titleHad_68 rfl rfl ?_
      refine rx_iconst C dX5_titleHad_69 ic_m1 ?_
      refine rx_icmp_eq C (tgt := 89) dX5_titleHad_70 (by decide) (fun _ => ?_) (fun _ => ?_)
      · exact RX.loc (w_X5_titleHad_89 C q20.2) [2] rfl
      · refine rx_aload_n C 2 dX5_titleHad_73 rfl rfl ?_
        refine rx_getR C (k := 1) sx_5 fc_X5 (by decide) rfl lk_X5_15 dX5_titleHad_74 ?_
        refine rx_ltr (fun g22 => ?_)
        refine rx_if (fun hg22 => ?_) (fun _ => rx_none)
        refine rx_getC C (k := 7) (ld_sh (landB_is hg22)) fc_X4 (by decide) (g22 + 18) rfl lk_X5_125 dX5_titleHad_77 ?_
        refine rx_iload_n C 1 dX5_titleHad_80 rfl rfl ?_
        refine rx_iald C (n := 8) (ldl_18 (landB_is hg22)) dX5_titleHad_81 (fun _ => ?_)
        refine rx_iload_n C 0 dX5_titleHad_82 rfl rfl ?_
        refine rx_ishr C dX5_titleHad_83 ?_
        refine rx_iconst C dX5_titleHad_84 ic_1 ?_
        refine rx_iand C dX5_titleHad_85 ?_
        refine rx_if_eq C (tgt := 98) dX5_titleHad_86 (by decide) (fun _ => ?_) (fun _ => ?_)
        · refine rx_aload_n C 2 dX5_titleHad_98 rfl rfl ?_
          refine rx_getC C (k := 0) sx_5 fc_X5 (by decide) 3 rfl lk_X5_9 dX5_titleHad_99 ?_
          refine rx_callVv C [] [] (m_X6_skip z.l C.inj q20.2) mv_X6_skip lk_X5_72 sx_3 rfl rfl rfl (Nat.le_of_ble_eq_true rfl) ⟨Nat.le_of_ble_eq_true rfl, Nat.le_of_ble_eq_true rfl⟩ dX5_titleHad_102 (fun q23 => ?_)
          refine rx_aload_n C 2 dX5_titleHad_105 rfl rfl ?_
          refine rx_getR C (k := 1) sx_5 fc_X5 (by decide) rfl lk_X5_15 dX5_titleHad_106 ?_
          refine rx_ltr (fun g24 => ?_)
          refine rx_if (fun hg24 => ?_) (fun _ => rx_none)
          refine rx_getC C (k := 7) (ld_sh (landB_is hg24)) fc_X4 (by decide) (g24 + 18) rfl lk_X5_125 dX5_titleHad_109 ?_
          refine rx_iload_n C 1 dX5_titleHad_112 rfl rfl ?_
          refine rx_dup2 C dX5_titleHad_113 rfl rfl ?_
          refine rx_iald C (n := 8) (ldl_18 (landB_is hg24)) dX5_titleHad_114 (fun _ => ?_)
          refine rx_iconst C dX5_titleHad_115 ic_1 ?_
          refine rx_iload_n C 0 dX5_titleHad_116 rfl rfl ?_
          refine rx_ishl C dX5_titleHad_117 ?_
          refine rx_ior C dX5_titleHad_118 ?_
          refine rx_iast C (n := 8) (ldl_18 (landB_is hg24)) dX5_titleHad_119 (fun _ => ?_)
          refine rx_lts (fun σ25 => ?_)
          refine rx_iconst C dX5_titleHad_120 ic_1 ?_
          exact rx_zretC C dX5_titleHad_121 rfl
        · exact RX.loc (w_X5_titleHad_89 C q20.2) [2] rfl
    · refine rx_aload_n C 1 dX5_titleHad_41 rfl rfl ?_
      refine rx_getC C (k := 0) sx_5 fc_X5 (by decide) 3 rfl lk_X5_9 dX5_titleHad_42 ?_
      refine rx_iconst C dX5_titleHad_45 ic_1 ?_
      refine rx_callVi C [.int (1 : Int32)] [] (m_X6_failHere z.l C.inj (1 : Int32) q18.2) mv_X6_failHere lk_X5_62 sx_3 rfl rfl rfl (Nat.le_of_ble_eq_true rfl) ⟨Nat.le_of_ble_eq_true rfl, Nat.le_of_ble_eq_true rfl⟩ dX5_titleHad_46 (fun q26 => ?_)
      exact rx_zret C dX5_titleHad_49
theorem m_X5_titleHad (l : Launch) {α : Nat → Nat} {D : va_G} {cA : Nat → ClassId} (hin : inj shX.length α) (σ : St) : CT shX l yX5_titleHad cX5_titleHad 3 (some .boolean) 3 65 emI α D cA [.ref (α 5)] σ (f_X5_titleHad σ) := ct_of rfl (Nat.le_of_ble_eq_true rfl) hin (fun z _ C => w_X5_titleHad_e C σ)
