set_option maxRecDepth 100000 in
set_option maxHeartbeats 4000000 in
theorem w_X2_change_35 {α : Nat → Nat} {D : va_G} {cA : Nat → ClassId} {z : Cz} (C : CX shX α D cA z RX2 cX2_change 4 none 0 0) (σ : St) : RX emV shX α D cA z 4 σ 35 [] [] (f_X2_change_35 σ) := by
  unfold f_X2_change_35
  exact rx_vret C dX2_change_35
set_option maxRecDepth 100000 in
set_option maxHeartbeats 4000000 in
theorem w_X2_change_e {α : Nat → Nat} {D : va_G} {cA : Nat → ClassId} {z : Cz} (C : CX shX α D cA z RX2 cX2_change 4 none 0 0) (x1 : Int32) (x2 : Int32) (x3 : Int32) (σ : St) : RX emV shX α D cA z 4 σ 0 [(0, .ref (α 6)), (1, .int x1), (2, .int x2), (3, .int x3)] [] (f_X2_change x1 x2 x3 σ) := by
  unfold f_X2_change
  refine rx_iload_n C 1 dX2_change_0 rfl rfl ?_
  refine rx_if_lt C (tgt := 35) dX2_change_1 (by decide) (fun _ => ?_) (fun _ => ?_)
  · exact RX.loc (w_X2_change_35 C σ) [] rfl
  · refine rx_iload_n C 1 dX2_change_4 rfl rfl ?_
    refine rx_bipush C dX2_change_5 bp_8 ?_
    refine rx_icmp_gt C (tgt := 35) dX2_change_7 (by decide) (fun _ => ?_) (fun _ => ?_)
    · exact RX.loc (w_X2_change_35 C σ) [] rfl
    · refine rx_iload_n C 2 dX2_change_10 rfl rfl ?_
      refine rx_if_lt C (tgt := 35) dX2_change_11 (by decide) (fun _ => ?_) (fun _ => ?_)
      · exact RX.loc (w_X2_change_35 C σ) [] rfl
      · refine rx_iload_n C 2 dX2_change_14 rfl rfl ?_
        refine rx_bipush C dX2_change_15 bp_26 ?_
        refine rx_icmp_ge C (tgt := 35) dX2_change_17 (by decide) (fun _ => ?_) (fun _ => ?_)
        · exact RX.loc (w_X2_change_35 C σ) [] rfl
        · refine rx_aload_n C 0 dX2_change_20 rfl rfl ?_
          refine rx_getC C (k := 5) sx_6 fc_X2 (by decide) 8 rfl lk_X2_29 dX2_change_21 ?_
          refine rx_iload_n C 1 dX2_change_24 rfl rfl ?_
          refine rx_bipush C dX2_change_25 bp_26 ?_
          refine rx_imul C dX2_change_27 ?_
          refine rx_iload_n C 2 dX2_change_28 rfl rfl ?_
          refine rx_iadd C dX2_change_29 ?_
          refine rx_lti (fun w3 => ?_)
          refine rx_dup2 C dX2_change_30 rfl rfl ?_
          refine rx_iald C (n := 234) sx_8 dX2_change_31 (fun _ => ?_)
          refine rx_iload_n C 3 dX2_change_32 rfl rfl ?_
          refine rx_iadd C dX2_change_33 ?_
          refine rx_iast C (n := 234) sx_8 dX2_change_34 (fun _ => ?_)
          refine rx_lts (fun σ4 => ?_)
          exact RX.loc (w_X2_change_35 C σ4) [] rfl
theorem m_X2_change (l : Launch) {α : Nat → Nat} {D : va_G} {cA : Nat → ClassId} (hin : inj shX.length α) (x1 : Int32) (x2 : Int32) (x3 : Int32) (σ : St) : CT shX l yX2_change cX2_change 4 none 0 0 emV α D cA [.ref (α 6), .int x1, .int x2, .int x3] σ (f_X2_change x1 x2 x3 σ) := ct_of rfl (Nat.le_of_ble_eq_true rfl) hin (fun z _ C => w_X2_change_e C x1 x2 x3 σ)
set_option maxRecDepth 100000 in
set_option maxHeartbeats 4000000 in
theorem w_X2_gather_53 {α : Nat → Nat} {D : va_G} {cA : Nat → ClassId} {z : Cz} (C : CX shX α D cA z RX2 cX2_gather 7 none 2 42) (k_21 : Int32 → Int32 → Int32 → Int32 → St → Option (Unit × St)) (hk_21 : ∀ (x2 : Int32) (x3 : Int32) (x4 : Int32) (x5 : Int32) (σ : St), RX emV shX α D cA z 7 σ 21 [(0, .ref (α 6)), (2, .int x2), (3, .int x3), (4, .int x4), (5, .int x5)] [] (k_21 x2 x3 x4 x5 σ)) (x2 : Int32) (x3 : Int32) (x4 : Int32) (x5 : Int32) (x6 : Int32) (s1 : Int32) (σ : St) : RX emV shX α D cA z 7 σ 53 [(0, .ref (α 6)), (2, .int x2), (3, .int x3), (4, .int x4), (5, .int x5), (6, .int x6)] [.int s1, .ref (α 6)] (f_X2_gather_53 k_21 x2 x3 x4 x5 x6 s1 σ) := by
  unfold f_X2_gather_53
  refine rx_iload C 5 dX2_gather_53 rfl ?_
  refine rx_iconst C dX2_gather_55 ic_m1 ?_
  refine rx_callVv C [.int s1, .int x6, .int (-1 : Int32)] [] (m_X2_change z.l C.inj s1 x6 (-1 : Int32) σ) mv_X2_change lk_X2_130 sx_6 rfl rfl rfl (Nat.le_of_ble_eq_true rfl) ⟨Nat.le_of_ble_eq_true rfl, Nat.le_of_ble_eq_true rfl⟩ dX2_gather_56 (fun q12 => ?_)
  refine rx_iinc C (k0 := 4) (v := x5 + (1 : Int32)) [(5, .int (x5 + (1 : Int32))), (0, .ref (α 6)), (2, .int x2), (3, .int x3), (4, .int x4), (6, .int x6)] dX2_gather_59 rfl (congrArg _ ic_1) (by decide) rfl ?_
  refine rx_goto C (tgt := 21) dX2_gather_62 (by decide) ?_
  exact RX.loc (hk_21 x2 x3 x4 (x5 + (1 : Int32)) q12.2) [1, 2, 3, 4, 0] rfl
set_option maxRecDepth 100000 in
set_option maxHeartbeats 4000000 in
theorem w_X2_gather_21 {α : Nat → Nat} {D : va_G} {cA : Nat → ClassId} {z : Cz} (C : CX shX α D cA z RX2 cX2_gather 7 none 2 42) : ∀ (n : Nat) (x2 : Int32) (x3 : Int32) (x4 : Int32) (x5 : Int32) (σ : St), RX emV shX α D cA z 7 σ 21 [(0, .ref (α 6)), (2, .int x2), (3, .int x3), (4, .int x4), (5, .int x5)] [] (f_X2_gather_21 n x2 x3 x4 x5 σ) := by
  intro n
  induction n with
  | zero => intros; exact rx_none
  | succ n hk_21 =>
    intro x2 x3 x4 x5 σ
    rw [f_X2_gather_21.eq_2]
    refine rx_iload C 4 dX2_gather_21 rfl ?_
    refine rx_iload C 3 dX2_gather_23 rfl ?_
    refine rx_icmp_ge C (tgt := 65) dX2_gather_25 (by decide) (fun _ => ?_) (fun _ => ?_)
    · exact rx_vret C dX2_gather_65
    · refine rx_iload_n C 2 dX2_gather_28 rfl rfl ?_
      refine rx_iload C 4 dX2_gather_29 rfl ?_
      refine rx_callSi C [.int x3, .int x5] [] (m_X8_letterOf z.l C.inj x3 x5 σ) ms_X8_letterOf lk_X2_127 rfl rfl (Nat.le_of_ble_eq_true rfl) ⟨Nat.le_of_ble_eq_true rfl, Nat.le_of_ble_eq_true rfl⟩ dX2_gather_31 (fun q10 => ?_)
      refine rx_istore C [(6, .int q10.1), (0, .ref (α 6)), (2, .int x2), (3, .int x3), (4, .int x4), (5, .int x5)] dX2_gather_34 (by decide) rfl ?_
      refine rx_aload_n C 1 dX2_gather_36 rfl rfl ?_
      refine rx_aload_n C 1 dX2_gather_37 rfl rfl ?_
      refine rx_iload_n C 2 dX2_gather_38 rfl rfl ?_
      refine rx_iload C 0 dX2_gather_39 rfl ?_
      refine rx_callVi C [.int x2, .int q10.1] [.ref (α 6)] (m_X2_count z.l C.inj x2 q10.1 q10.2) mv_X2_count lk_X2_134 sx_6 rfl rfl rfl (Nat.le_of_ble_eq_true rfl) ⟨Nat.le_of_ble_eq_true rfl, Nat.le_of_ble_eq_true rfl⟩ dX2_gather_41 (fun q11 => ?_)
      refine rx_if_le C (tgt := 51) dX2_gather_44 (by decide) (fun _ => ?_) (fun _ => ?_)
      · refine rx_bipush C dX2_gather_51 bp_8 ?_
        exact RX.loc (w_X2_gather_53 C (f_X2_gather_21 n) hk_21 x2 x3 x4 x5 q10.1 (8 : Int32) q11.2) [1, 2, 3, 4, 5, 0] rfl
      · refine rx_iload_n C 2 dX2_gather_47 rfl rfl ?_
        refine rx_goto C (tgt := 53) dX2_gather_48 (by decide) ?_
        exact RX.loc (w_X2_gather_53 C (f_X2_gather_21 n) hk_21 x2 x3 x4 x5 q10.1 x2 q11.2) [1, 2, 3, 4, 5, 0] rfl
set_option maxRecDepth 100000 in
set_option maxHeartbeats 4000000 in
theorem w_X2_gather_e {α : Nat → Nat} {D : va_G} {cA : Nat → ClassId} {z : Cz} (C : CX shX α D cA z RX2 cX2_gather 7 none 2 42) (x1 : Int32) (x2 : Int32) (σ : St) : RX emV shX α D cA z 7 σ 0 [(0, .ref (α 6)), (1, .int x1), (2, .int x2)] [] (f_X2_gather x1 x2 σ) := by
  unfold f_X2_gather
  refine rx_aload_n C 0 dX2_gather_0 rfl rfl ?_
  refine rx_getR C (k := 0) sx_6 fc_X2 (by decide) rfl lk_X2_9 dX2_gather_1 ?_
  refine rx_ltr (fun g7 => ?_)
  refine rx_if (fun hg7 => ?_) (fun _ => rx_none)
  refine rx_getC C (k := 1) (ld_sh (landB_is hg7)) fc_X4 (by decide) (g7 + 4) rfl lk_X2_97 dX2_gather_4 ?_
  refine rx_iload_n C 1 dX2_gather_7 rfl rfl ?_
  refine rx_callVi C [.int x1] [] (m_X8_name z.l C.inj (g7 + 4) (ld_4 (landB_is hg7)) x1 σ) mv_X8_name lk_X2_120 (ro_sh (ld_4 (landB_is hg7))) rfl rfl rfl (Nat.le_of_ble_eq_true rfl) ⟨Nat.le_of_ble_eq_true rfl, Nat.le_of_ble_eq_true rfl⟩ dX2_gather_8 (fun q8 => ?_)
  refine rx_istore_n C [(3, .int q8.1), (0, .ref (α 6)), (1, .int x1), (2, .int x2)] dX2_gather_11 rfl (by decide) rfl ?_
  refine rx_iload_n C 0 dX2_gather_12 rfl rfl ?_
  refine rx_callSi C [.int q8.1] [] (m_X8_lengthOf z.l C.inj q8.1 q8.2) ms_X8_lengthOf lk_X2_124 rfl rfl (Nat.le_of_ble_eq_true rfl) ⟨Nat.le_of_ble_eq_true rfl, Nat.le_of_ble_eq_true rfl⟩ dX2_gather_13 (fun q9 => ?_)
  refine rx_istore C [(4, .int q9.1), (3, .int q8.1), (0, .ref (α 6)), (1, .int x1), (2, .int x2)] dX2_gather_16 (by decide) rfl ?_
  refine rx_iconst C dX2_gather_18 ic_0 ?_
  refine rx_istore C [(5, .int (0 : Int32)), (4, .int q9.1), (3, .int q8.1), (0, .ref (α 6)), (1, .int x1), (2, .int x2)] dX2_gather_19 (by decide) rfl ?_
  exact RX.loc (w_X2_gather_21 C FU x2 q8.1 q9.1 (0 : Int32) q9.2) [3, 5, 2, 1, 0] rfl
theorem m_X2_gather (l : Launch) {α : Nat → Nat} {D : va_G} {cA : Nat → ClassId} (hin : inj shX.length α) (x1 : Int32) (x2 : Int32) (σ : St) : CT shX l yX2_gather cX2_gather 7 none 2 42 emV α D cA [.ref (α 6), .int x1, .int x2] σ (f_X2_gather x1 x2 σ) := ct_of rfl (Nat.le_of_ble_eq_true rfl) hin (fun z _ C => w_X2_gather_e C x1 x2 σ)
set_option maxRecDepth 100000 in
set_option maxHeartbeats 4000000 in
theorem w_X1_makeTitle_e {α : Nat → Nat} {D : va_G} {cA : Nat → ClassId} {z : Cz} (C : CX shX α D cA z RX1 cX1_makeTitle 4 (some .int) 6 150) (x1 : Int32) (x2 : Int32) (σ : St) : RX emI shX α D cA z 4 σ 0 [(0, .ref (α 18)), (1, .int x1), (2, .int x2)] [] (f_X1_makeTitle x1 x2 σ) := by
  unfold f_X1_makeTitle
  refine rx_aload_n C 0 dX1_makeTitle_0 rfl rfl ?_
  refine rx_getC C (k := 0) sx_18 fc_X1 (by decide) 6 rfl lk_X1_9 dX1_makeTitle_1 ?_
  refine rx_iload_n C 1 dX1_makeTitle_4 rfl rfl ?_
  refine rx_iload_n C 2 dX1_makeTitle_5 rfl rfl ?_
  refine rx_callVi C [.int x1, .int x2] [] (m_X2_gainOunces z.l C.inj x1 x2 σ) mv_X2_gainOunces lk_X1_57 sx_6 rfl rfl rfl (Nat.le_of_ble_eq_true rfl) ⟨Nat.le_of_ble_eq_true rfl, Nat.le_of_ble_eq_true rfl⟩ dX1_makeTitle_6 (fun q6 => ?_)
  refine rx_istore_n C [(3, .int q6.1), (0, .ref (α 18)), (1, .int x1), (2, .int x2)] dX1_makeTitle_9 rfl (by decide) rfl ?_
  refine rx_iload_n C 0 dX1_makeTitle_10 rfl rfl ?_
  refine rx_iconst C dX1_makeTitle_11 ic_m1 ?_
  refine rx_icmp_ne C (tgt := 17) dX1_makeTitle_12 (by decide) (fun _ => ?_) (fun _ => ?_)
  · refine rx_iconst C dX1_makeTitle_15 ic_m1 ?_
    exact rx_iret C dX1_makeTitle_16
  · refine rx_aload_n C 1 dX1_makeTitle_17 rfl rfl ?_
    refine rx_getC C (k := 0) sx_18 fc_X1 (by decide) 6 rfl lk_X1_9 dX1_makeTitle_18 ?_
    refine rx_iload_n C 3 dX1_makeTitle_21 rfl rfl ?_
    refine rx_iload_n C 2 dX1_makeTitle_22 rfl rfl ?_
    refine rx_callVv C [.int x2, .int x1] [] (m_X2_gather z.l C.inj x2 x1 q6.2) mv_X2_gather lk_X1_61 sx_6 rfl rfl rfl (Nat.le_of_ble_eq_true rfl) ⟨Nat.le_of_ble_eq_true rfl, Nat.le_of_ble_eq_true rfl⟩ dX1_makeTitle_23 (fun q7 => ?_)
    refine rx_aload_n C 1 dX1_makeTitle_26 rfl rfl ?_
    refine rx_getC C (k := 0) sx_18 fc_X1 (by decide) 6 rfl lk_X1_9 dX1_makeTitle_27 ?_
    refine rx_iload_n C 2 dX1_makeTitle_30 rfl rfl ?_
    refine rx_iload_n C 3 dX1_makeTitle_31 rfl rfl ?_
    refine rx_callVv C [.int x1, .int x2] [] (m_X2_come z.l C.inj x1 x2 q7.2) mv_X2_come lk_X1_64 sx_6 rfl rfl rfl (Nat.le_of_ble_eq_true rfl) ⟨Nat.le_of_ble_eq_true rfl, Nat.le_of_ble_eq_true rfl⟩ dX1_makeTitle_32 (fun q8 => ?_)
    refine rx_aload_n C 1 dX1_makeTitle_35 rfl rfl ?_
    refine rx_iconst C dX1_makeTitle_36 ic_0 ?_
    refine rx_iload_n C 2 dX1_makeTitle_37 rfl rfl ?_
    refine rx_iconst C dX1_makeTitle_38 ic_m1 ?_
    refine rx_iload_n C 0 dX1_makeTitle_39 rfl rfl ?_
    refine rx_callVv C [.int (0 : Int32), .int x1, .int (-1 : Int32), .int q6.1] [] (m_X1_note z.l C.inj (0 : Int32) x1 (-1 : Int32) q6.1 q8.2) mv_X1_note lk_X1_67 sx_18 rfl rfl rfl (Nat.le_of_ble_eq_true rfl) ⟨Nat.le_of_ble_eq_true rfl, Nat.le_of_ble_eq_true rfl⟩ dX1_makeTitle_40 (fun q9 => ?_)
    refine rx_aload_n C 1 dX1_makeTitle_43 rfl rfl ?_
    refine rx_getC C (k := 0) sx_18 fc_X1 (by decide) 6 rfl lk_X1_9 dX1_makeTitle_44 ?_
    refine rx_iload_n C 2 dX1_makeTitle_47 rfl rfl ?_
    refine rx_callVi C [.int x1] [] (m_X2_loadOf z.l C.inj x1 q9.2) mv_X2_loadOf lk_X1_71 sx_6 rfl rfl rfl (Nat.le_of_ble_eq_true rfl) ⟨Nat.le_of_ble_eq_true rfl, Nat.le_of_ble_eq_true rfl⟩ dX1_makeTitle_48 (fun q10 => ?_)
    exact rx_iret C dX1_makeTitle_51
theorem m_X1_makeTitle (l : Launch) {α : Nat → Nat} {D : va_G} {cA : Nat → ClassId} (hin : inj shX.length α) (x1 : Int32) (x2 : Int32) (σ : St) : CT shX l yX1_makeTitle cX1_makeTitle 4 (some .int) 6 150 emI α D cA [.ref (α 18), .int x1, .int x2] σ (f_X1_makeTitle x1 x2 σ) := ct_of rfl (Nat.le_of_ble_eq_true rfl) hin (fun z _ C => w_X1_makeTitle_e C x1 x2 σ)
set_option maxRecDepth 100000 in
set_option maxHeartbeats 4000000 in
theorem w_X2_go_79 {α : Nat → Nat} {D : va_G} {cA : Nat → ClassId} {z : Cz} (C : CX shX α D cA z RX2 cX2_go 3 none 2 44) (σ : St) : RX emV shX α D cA z 3 σ 79 [] [] (f_X2_go_79 σ) := by
  unfold f_X2_go_79
  exact rx_vret C dX2_go_79
set_option maxRecDepth 100000 in
set_option maxHeartbeats 4000000 in
theorem w_X2_go_e {α : Nat → Nat} {D : va_G} {cA : Nat → ClassId} {z : Cz} (C : CX shX α D cA z RX2 cX2_go 3 none 2 44) (x1 : Int32) (x2 : Int32) (σ : St) : RX emV shX α D cA z 3 σ 0 [(0, .ref (α 6)), (1, .int x1), (2, .int x2)] [] (f_X2_go x1 x2 σ) := by
  unfold f_X2_go
  refine rx_aload_n C 0 dX2_go_0 rfl rfl ?_
  refine rx_iload_n C 1 dX2_go_1 rfl rfl ?_
  refine rx_iload_n C 2 dX2_go_2 rfl rfl ?_
  refine rx_callVi C [.int x1, .int x2] [] (m_X2_bears z.l C.inj x1 x2 σ) mv_X2_bears lk_X2_99 sx_6 rfl rfl rfl (Nat.le_of_ble_eq_true rfl) ⟨Nat.le_of_ble_eq_true rfl, Nat.le_of_ble_eq_true rfl⟩ dX2_go_3 (fun q8 => ?_)
  refine rx_if_eq C (tgt := 79) dX2_go_6 (by decide) (fun _ => ?_) (fun _ => ?_)
  · exact RX.loc (w_X2_go_79 C q8.2) [] rfl
  · refine rx_aload_n C 0 dX2_go_9 rfl rfl ?_
    refine rx_getC C (k := 4) sx_6 fc_X2 (by decide) 7 rfl lk_X2_25 dX2_go_10 ?_
    refine rx_iload_n C 1 dX2_go_13 rfl rfl ?_
    refine rx_dup2 C dX2_go_14 rfl rfl ?_
    refine rx_iald C (n := 8) sx_7 dX2_go_15 (fun _ => ?_)
    refine rx_iconst C dX2_go_16 ic_1 ?_
    refine rx_iload_n C 2 dX2_go_17 rfl rfl ?_
    refine rx_ishl C dX2_go_18 ?_
    refine rx_iconst C dX2_go_19 ic_m1 ?_
    refine rx_ixor C dX2_go_20 ?_
    refine rx_iand C dX2_go_21 ?_
    refine rx_iast C (n := 8) sx_7 dX2_go_22 (fun _ => ?_)
    refine rx_lts (fun σ9 => ?_)
    refine rx_aload_n C 0 dX2_go_23 rfl rfl ?_
    refine rx_getC C (k := 10) sx_6 fc_X2 (by decide) 13 rfl lk_X2_49 dX2_go_24 ?_
    refine rx_callVv C [] [] (m_X7_grow z.l C.inj 13 rn_13 σ9) mv_X7_grow lk_X2_109 sx_13 rfl rfl rfl (Nat.le_of_ble_eq_true rfl) ⟨Nat.le_of_ble_eq_true rfl, Nat.le_of_ble_eq_true rfl⟩ dX2_go_27 (fun q10 => ?_)
    refine rx_aload_n C 0 dX2_go_30 rfl rfl ?_
    refine rx_getC C (k := 10) sx_6 fc_X2 (by decide) 13 rfl lk_X2_49 dX2_go_31 ?_
    refine rx_iconst C dX2_go_34 ic_0 ?_
    refine rx_iload_n C 1 dX2_go_35 rfl rfl ?_
    refine rx_callVv C [.int (0 : Int32), .int x1] [] (m_X7_set z.l C.inj 13 rn_13 (0 : Int32) x1 q10.2) mv_X7_set lk_X2_112 sx_13 rfl rfl rfl (Nat.le_of_ble_eq_true rfl) ⟨Nat.le_of_ble_eq_true rfl, Nat.le_of_ble_eq_true rfl⟩ dX2_go_36 (fun q11 => ?_)
    refine rx_aload_n C 0 dX2_go_39 rfl rfl ?_
    refine rx_getC C (k := 10) sx_6 fc_X2 (by decide) 13 rfl lk_X2_49 dX2_go_40 ?_
    refine rx_iconst C dX2_go_43 ic_1 ?_
    refine rx_iload_n C 2 dX2_go_44 rfl rfl ?_
    refine rx_callVv C [.int (1 : Int32), .int x2] [] (m_X7_set z.l C.inj 13 rn_13 (1 : Int32) x2 q11.2) mv_X7_set lk_X2_112 sx_13 rfl rfl rfl (Nat.le_of_ble_eq_true rfl) ⟨Nat.le_of_ble_eq_true rfl, Nat.le_of_ble_eq_true rfl⟩ dX2_go_45 (fun q12 => ?_)
    refine rx_aload_n C 0 dX2_go_48 rfl rfl ?_
    refine rx_getC C (k := 10) sx_6 fc_X2 (by decide) 13 rfl lk_X2_49 dX2_go_49 ?_
    refine rx_iconst C dX2_go_52 ic_2 ?_
    refine rx_aload_n C 0 dX2_go_53 rfl rfl ?_
    refine rx_getC C (k := 7) sx_6 fc_X2 (by decide) 10 rfl lk_X2_35 dX2_go_54 ?_
    refine rx_iload_n C 1 dX2_go_57 rfl rfl ?_
    refine rx_bipush C dX2_go_58 bp_12 ?_
    refine rx_imul C dX2_go_60 ?_
    refine rx_iload_n C 2 dX2_go_61 rfl rfl ?_
    refine rx_iadd C dX2_go_62 ?_
    refine rx_iald C (n := 96) sx_10 dX2_go_63 (fun _ => ?_)
    refine rx_callVv C [.int (2 : Int32), .int (gI q12.2 10 (ix ((x1 * (12 : Int32)) + x2)))] [] (m_X7_set z.l C.inj 13 rn_13 (2 : Int32) (gI q12.2 10 (ix ((x1 * (12 : Int32)) + x2))) q12.2) mv_X7_set lk_X2_112 sx_13 rfl rfl rfl (Nat.le_of_ble_eq_true rfl) ⟨Nat.le_of_ble_eq_true rfl, Nat.le_of_ble_eq_true rfl⟩ dX2_go_64 (fun q13 => ?_)
    refine rx_aload_n C 0 dX2_go_67 rfl rfl ?_
    refine rx_getC C (k := 10) sx_6 fc_X2 (by decide) 13 rfl lk_X2_49 dX2_go_68 ?_
    refine rx_iconst C dX2_go_71 ic_3 ?_
    refine rx_aload_n C 0 dX2_go_72 rfl rfl ?_
    refine rx_getI C (k := 1) sx_6 fc_X2 (by decide) rfl lk_X2_15 dX2_go_73 ?_
    refine rx_callVv C [.int (3 : Int32), .int (gI q13.2 6 1)] [] (m_X7_set z.l C.inj 13 rn_13 (3 : Int32) (gI q13.2 6 1) q13.2) mv_X7_set lk_X2_112 sx_13 rfl rfl rfl (Nat.le_of_ble_eq_true rfl) ⟨Nat.le_of_ble_eq_true rfl, Nat.le_of_ble_eq_true rfl⟩ dX2_go_76 (fun q14 => ?_)
    exact RX.loc (w_X2_go_79 C q14.2) [] rfl
theorem m_X2_go (l : Launch) {α : Nat → Nat} {D : va_G} {cA : Nat → ClassId} (hin : inj shX.length α) (x1 : Int32) (x2 : Int32) (σ : St) : CT shX l yX2_go cX2_go 3 none 2 44 emV α D cA [.ref (α 6), .int x1, .int x2] σ (f_X2_go x1 x2 σ) := ct_of rfl (Nat.le_of_ble_eq_true rfl) hin (fun z _ C => w_X2_go_e C x1 x2 σ)
set_option maxRecDepth 100000 in
set_option maxHeartbeats 4000000 in
theorem w_X2_scatter_21 {α : Nat → Nat} {D : va_G} {cA : Nat → ClassId} {z : Cz} (C : CX shX α D cA z RX2 cX2_scatter 6 none 2 42) : ∀ (n : Nat) (x2 : Int32) (x3 : Int32) (x4 : Int32) (x5 : Int32) (σ : St), RX emV shX α D cA z 6 σ 21 [(0, .ref (α 6)), (2, .int x2), (3, .int x3), (4, .int x4), (5, .int x5)] [] (f_X2_scatter_21 n x2 x3 x4 x5 σ) := by
  intro n
  induction n with
  | zero => intros; exact rx_none
  | succ n hk_21 =>
    intro x2 x3 x4 x5 σ
    rw [f_X2_scatter_21.eq_2]
    refine rx_iload C 4 dX2_scatter_21 rfl ?_
    refine rx_iload C 3 dX2_scatter_23 rfl ?_
    refine rx_icmp_ge C (tgt := 46) dX2_scatter_25 (by decide) (fun _ => ?_) (fun _ => ?_)
    · exact rx_vret C dX2_scatter_46
    · refine rx_aload_n C 0 dX2_scatter_28 rfl rfl ?_
      refine rx_iload_n C 1 dX2_scatter_29 rfl rfl ?_
      refine rx_iload_n C 2 dX2_scatter_30 rfl rfl ?_
      refine rx_iload C 4 dX2_scatter_31 rfl ?_
      refine rx_callSi C [.int x3, .int x5] [.int x2, .ref (α 6)] (m_X8_letterOf z.l C.inj x3 x5 σ) ms_X8_letterOf lk_X2_127 rfl rfl (Nat.le_of_ble_eq_true rfl) ⟨Nat.le_of_ble_eq_true rfl, Nat.le_of_ble_eq_true rfl⟩ dX2_scatter_33 (fun q9 => ?_)
      refine rx_iconst C dX2_scatter_36 ic_1 ?_
      refine rx_callVv C [.int x2, .int q9.1, .int (1 : Int32)] [] (m_X2_change z.l C.inj x2 q9.1 (1 : Int32) q9.2) mv_X2_change lk_X2_130 sx_6 rfl rfl rfl (Nat.le_of_ble_eq_true rfl) ⟨Nat.le_of_ble_eq_true rfl, Nat.le_of_ble_eq_true rfl⟩ dX2_scatter_37 (fun q10 => ?_)
      refine rx_iinc C (k0 := 4) (v := x5 + (1 : Int32)) [(5, .int (x5 + (1 : Int32))), (0, .ref (α 6)), (2, .int x2), (3, .int x3), (4, .int x4)] dX2_scatter_40 rfl (congrArg _ ic_1) (by decide) rfl ?_
      refine rx_goto C (tgt := 21) dX2_scatter_43 (by decide) ?_
      exact RX.loc (hk_21 x2 x3 x4 (x5 + (1 : Int32)) q10.2) [1, 2, 3, 4, 0] rfl
set_option maxRecDepth 100000 in
set_option maxHeartbeats 4000000 in
theorem w_X2_scatter_e {α : Nat → Nat} {D : va_G} {cA : Nat → ClassId} {z : Cz} (C : CX shX α D cA z RX2 cX2_scatter 6 none 2 42) (x1 : Int32) (x2 : Int32) (σ : St) : RX emV shX α D cA z 6 σ 0 [(0, .ref (α 6)), (1, .int x1), (2, .int x2)] [] (f_X2_scatter x1 x2 σ) := by
  unfold f_X2_scatter
  refine rx_aload_n C 0 dX2_scatter_0 rfl rfl ?_
  refine rx_getR C (k := 0) sx_6 fc_X2 (by decide) rfl lk_X2_9 dX2_scatter_1 ?_
  refine rx_ltr (fun g6 => ?_)
  refine rx_if (fun hg6 => ?_) (fun _ => rx_none)
  refine rx_getC C (k := 1) (ld_sh (landB_is hg6)) fc_X4 (by decide) (g6 + 4) rfl lk_X2_97 dX2_scatter_4 ?_
  refine rx_iload_n C 1 dX2_scatter_7 rfl rfl ?_
  refine rx_callVi C [.int x1] [] (m_X8_name z.l C.inj (g6 + 4) (ld_4 (landB_is hg6)) x1 σ) mv_X8_name lk_X2_120 (ro_sh (ld_4 (landB_is hg6))) rfl rfl rfl (Nat.le_of_ble_eq_true rfl) ⟨Nat.le_of_ble_eq_true rfl, Nat.le_of_ble_eq_true rfl⟩ dX2_scatter_8 (fun q7 => ?_)
  refine rx_istore_n C [(3, .int q7.1), (0, .ref (α 6)), (1, .int x1), (2, .int x2)] dX2_scatter_11 rfl (by decide) rfl ?_
  refine rx_iload_n C 0 dX2_scatter_12 rfl rfl ?_
  refine rx_callSi C [.int q7.1] [] (m_X8_lengthOf z.l C.inj q7.1 q7.2) ms_X8_lengthOf lk_X2_124 rfl rfl (Nat.le_of_ble_eq_true rfl) ⟨Nat.le_of_ble_eq_true rfl, Nat.le_of_ble_eq_true rfl⟩ dX2_scatter_13 (fun q8 => ?_)
  refine rx_istore C [(4, .int q8.1), (3, .int q7.1), (0, .ref (α 6)), (1, .int x1), (2, .int x2)] dX2_scatter_16 (by decide) rfl ?_
  refine rx_iconst C dX2_scatter_18 ic_0 ?_
  refine rx_istore C [(5, .int (0 : Int32)), (4, .int q8.1), (3, .int q7.1), (0, .ref (α 6)), (1, .int x1), (2, .int x2)] dX2_scatter_19 (by decide) rfl ?_
  exact RX.loc (w_X2_scatter_21 C FU x2 q7.1 q8.1 (0 : Int32) q8.2) [3, 5, 2, 1, 0] rfl
theorem m_X2_scatter (l : Launch) {α : Nat → Nat} {D : va_G} {cA : Nat → ClassId} (hin : inj shX.length α) (x1 : Int32) (x2 : Int32) (σ : St) : CT shX l yX2_scatter cX2_scatter 6 none 2 42 emV α D cA [.ref (α 6), .int x1, .int x2] σ (f_X2_scatter x1 x2 σ) := ct_of rfl (Nat.le_of_ble_eq_true rfl) hin (fun z _ C => w_X2_scatter_e C x1 x2 σ)
set_option maxRecDepth 100000 in
set_option maxHeartbeats 4000000 in
theorem w_X4_titleOunces_e {α : Nat → Nat} {D : va_G} {cA : Nat → ClassId} {z : Cz} (C : CX shX α D cA z RX4 cX4_titleOunces 2 (some .int) 1 22) (r0 : Nat) (hr0 : isLand r0) (x1 : Int32) (σ : St) : RX emI shX α D cA z 2 σ 0 [(0, .ref (α r0)), (1, .int x1)] [] (f_X4_titleOunces r0 x1 σ) := by
  unfold f_X4_titleOunces
  refine rx_aload_n C 0 dX4_titleOunces_0 rfl rfl ?_
  refine rx_getC C (k := 1) (ld_sh hr0) fc_X4 (by decide) (r0 + 4) rfl lk_X4_20 dX4_titleOunces_1 ?_
  refine rx_iload_n C 1 dX4_titleOunces_4 rfl rfl ?_
  refine rx_iconst C dX4_titleOunces_5 ic_1 ?_
  refine rx_callVi C [.int x1, .int (1 : Int32)] [] (m_X8_get z.l C.inj (r0 + 4) (ld_4 hr0) x1 (1 : Int32) σ) mv_X8_get lk_X4_85 (ro_sh (ld_4 hr0)) rfl rfl rfl (Nat.le_of_ble_eq_true rfl) ⟨Nat.le_of_ble_eq_true rfl, Nat.le_of_ble_eq_true rfl⟩ dX4_titleOunces_6 (fun q2 => ?_)
  exact rx_iret C dX4_titleOunces_9
theorem m_X4_titleOunces (l : Launch) {α : Nat → Nat} {D : va_G} {cA : Nat → ClassId} (hin : inj shX.length α) (r0 : Nat) (hr0 : isLand r0) (x1 : Int32) (σ : St) : CT shX l yX4_titleOunces cX4_titleOunces 2 (some .int) 1 22 emI α D cA [.ref (α r0), .int x1] σ (f_X4_titleOunces r0 x1 σ) := ct_of rfl (Nat.le_of_ble_eq_true rfl) hin (fun z _ C => w_X4_titleOunces_e C r0 hr0 x1 σ)
set_option maxRecDepth 100000 in
set_option maxHeartbeats 4000000 in
theorem w_X1_dropTitle_e {α : Nat → Nat} {D : va_G} {cA : Nat → ClassId} {z : Cz} (C : CX shX α D cA z RX1 cX1_dropTitle 3 (some .int) 3 68) (x1 : Int32) (x2 : Int32) (σ : St) : RX emI shX α D cA z 3 σ 0 [(0, .ref (α 18)), (1, .int x1), (2, .int x2)] [] (f_X1_dropTitle x1 x2 σ) := by
  unfold f_X1_dropTitle
  refine rx_aload_n C 0 dX1_dropTitle_0 rfl rfl ?_
  refine rx_getC C (k := 0) sx_18 fc_X1 (by decide) 6 rfl lk_X1_9 dX1_dropTitle_1 ?_
  refine rx_iload_n C 1 dX1_dropTitle_4 rfl rfl ?_
  refine rx_iload_n C 2 dX1_dropTitle_5 rfl rfl ?_
  refine rx_callVi C [.int x1, .int x2] [] (m_X2_bears z.l C.inj x1 x2 σ) mv_X2_bears lk_X1_75 sx_6 rfl rfl rfl (Nat.le_of_ble_eq_true rfl) ⟨Nat.le_of_ble_eq_true rfl, Nat.le_of_ble_eq_true rfl⟩ dX1_dropTitle_6 (fun q8 => ?_)
  refine rx_if_ne C (tgt := 14) dX1_dropTitle_9 (by decide) (fun _ => ?_) (fun _ => ?_)
  · refine rx_iconst C dX1_dropTitle_12 ic_m1 ?_
    exact rx_iret C dX1_dropTitle_13
  · refine rx_aload_n C 0 dX1_dropTitle_14 rfl rfl ?_
    refine rx_getC C (k := 0) sx_18 fc_X1 (by decide) 6 rfl lk_X1_9 dX1_dropTitle_15 ?_
    refine rx_iload_n C 1 dX1_dropTitle_18 rfl rfl ?_
    refine rx_iload_n C 2 dX1_dropTitle_19 rfl rfl ?_
    refine rx_callVv C [.int x1, .int x2] [] (m_X2_go z.l C.inj x1 x2 q8.2) mv_X2_go lk_X1_79 sx_6 rfl rfl rfl (Nat.le_of_ble_eq_true rfl) ⟨Nat.le_of_ble_eq_true rfl, Nat.le_of_ble_eq_true rfl⟩ dX1_dropTitle_20 (fun q9 => ?_)
    refine rx_aload_n C 0 dX1_dropTitle_23 rfl rfl ?_
    refine rx_getC C (k := 0) sx_18 fc_X1 (by decide) 6 rfl lk_X1_9 dX1_dropTitle_24 ?_
    refine rx_iload_n C 2 dX1_dropTitle_27 rfl rfl ?_
    refine rx_bipush C dX1_dropTitle_28 bp_8 ?_
    refine rx_callVv C [.int x2, .int (8 : Int32)] [] (m_X2_scatter z.l C.inj x2 (8 : Int32) q9.2) mv_X2_scatter lk_X1_82 sx_6 rfl rfl rfl (Nat.le_of_ble_eq_true rfl) ⟨Nat.le_of_ble_eq_true rfl, Nat.le_of_ble_eq_true rfl⟩ dX1_dropTitle_30 (fun q10 => ?_)
    refine rx_aload_n C 0 dX1_dropTitle_33 rfl rfl ?_
    refine rx_iconst C dX1_dropTitle_34 ic_1 ?_
    refine rx_iload_n C 1 dX1_dropTitle_35 rfl rfl ?_
    refine rx_iconst C dX1_dropTitle_36 ic_m1 ?_
    refine rx_aload_n C 0 dX1_dropTitle_37 rfl rfl ?_
    refine rx_getC C (k := 0) sx_18 fc_X1 (by decide) 6 rfl lk_X1_9 dX1_dropTitle_38 ?_
    refine rx_getR C (k := 0) sx_6 fc_X2 (by decide) rfl lk_X1_85 dX1_dropTitle_41 ?_
    refine rx_ltr (fun g11 => ?_)
    refine rx_if (fun hg11 => ?_) (fun _ => rx_none)
    refine rx_iload_n C 2 dX1_dropTitle_44 rfl rfl ?_
    refine rx_callVi C [.int x2] [.int (-1 : Int32), .int x1, .int (1 : Int32), .ref (α 18)] (m_X4_titleOunces z.l C.inj g11 (landB_is hg11) x2 q10.2) mv_X4_titleOunces lk_X1_89 (ld_sh (landB_is hg11)) rfl rfl rfl (Nat.le_of_ble_eq_true rfl) ⟨Nat.le_of_ble_eq_true rfl, Nat.le_of_ble_eq_true rfl⟩ dX1_dropTitle_45 (fun q12 => ?_)
    refine rx_callVv C [.int (1 : Int32), .int x1, .int (-1 : Int32), .int q12.1] [] (m_X1_note z.l C.inj (1 : Int32) x1 (-1 : Int32) q12.1 q12.2) mv_X1_note lk_X1_67 sx_18 rfl rfl rfl (Nat.le_of_ble_eq_true rfl) ⟨Nat.le_of_ble_eq_true rfl, Nat.le_of_ble_eq_true rfl⟩ dX1_dropTitle_48 (fun q13 => ?_)
    refine rx_aload_n C 0 dX1_dropTitle_51 rfl rfl ?_
    refine rx_getC C (k := 0) sx_18 fc_X1 (by decide) 6 rfl lk_X1_9 dX1_dropTitle_52 ?_
    refine rx_iload_n C 1 dX1_dropTitle_55 rfl rfl ?_
    refine rx_callVi C [.int x1] [] (m_X2_loadOf z.l C.inj x1 q13.2) mv_X2_loadOf lk_X1_71 sx_6 rfl rfl rfl (Nat.le_of_ble_eq_true rfl) ⟨Nat.le_of_ble_eq_true rfl, Nat.le_of_ble_eq_true rfl⟩ dX1_dropTitle_56 (fun q14 => ?_)
    exact rx_iret C dX1_dropTitle_59
theorem m_X1_dropTitle (l : Launch) {α : Nat → Nat} {D : va_G} {cA : Nat → ClassId} (hin : inj shX.length α) (x1 : Int32) (x2 : Int32) (σ : St) : CT shX l yX1_dropTitle cX1_dropTitle 3 (some .int) 3 68 emI α D cA [.ref (α 18), .int x1, .int x2] σ (f_X1_dropTitle x1 x2 σ) := ct_of rfl (Nat.le_of_ble_eq_true rfl) hin (fun z _ C => w_X1_dropTitle_e C x1 x2 σ)
set_option maxRecDepth 100000 in
set_option maxHeartbeats 4000000 in
theorem w_X2_isPerson_e {α : Nat → Nat} {D : va_G} {cA : Nat → ClassId} {z : Cz} (C : CX shX α D cA z RX2 cX2_isPerson 2 (some .boolean) 1 21) (x1 : Int32) (σ : St) : RX emI shX α D cA z 2 σ 0 [(0, .ref (α 6)), (1, .int x1)] [] (f_X2_isPerson x1 σ) := by
  unfold f_X2_isPerson
  refine rx_aload_n C 0 dX2_isPerson_0 rfl rfl ?_
  refine rx_getR C (k := 0) sx_6 fc_X2 (by decide) rfl lk_X2_9 dX2_isPerson_1 ?_
  refine rx_ltr (fun g3 => ?_)
  refine rx_if (fun hg3 => ?_) (fun _ => rx_none)
  refine rx_getC C (k := 0) (ld_sh (landB_is hg3)) fc_X4 (by decide) (g3 + 1) rfl lk_X2_87 dX2_isPerson_4 ?_
  refine rx_iload_n C 1 dX2_isPerson_7 rfl rfl ?_
  refine rx_callVi C [.int x1] [] (m_X8_holds z.l C.inj (g3 + 1) (ld_1 (landB_is hg3)) x1 σ) mv_X8_holds lk_X2_91 (ro_sh (ld_1 (landB_is hg3))) rfl rfl rfl (Nat.le_of_ble_eq_true rfl) ⟨Nat.le_of_ble_eq_true rfl, Nat.le_of_ble_eq_true rfl⟩ dX2_isPerson_8 (fun q4 => ?_)
  exact rx_zret C dX2_isPerson_11
theorem m_X2_isPerson (l : Launch) {α : Nat → Nat} {D : va_G} {cA : Nat → ClassId} (hin : inj shX.length α) (x1 : Int32) (σ : St) : CT shX l yX2_isPerson cX2_isPerson 2 (some .boolean) 1 21 emI α D cA [.ref (α 6), .int x1] σ (f_X2_isPerson x1 σ) := ct_of rfl (Nat.le_of_ble_eq_true rfl) hin (fun z _ C => w_X2_isPerson_e C x1 σ)
set_option maxRecDepth 100000 in
set_option maxHeartbeats 4000000 in
theorem w_X2_isIn_7 {α : Nat → Nat} {D : va_G} {cA : Nat → ClassId} {z : Cz} (C : CX shX α D cA z RX2 cX2_isIn 4 (some .boolean) 1 21) : ∀ (n : Nat) (x0 : Int32) (x1 : Int32) (x2 : Int32) (x3 : Int32) (σ : St), RX emI shX α D cA z 4 σ 7 [(0, .int x0), (1, .int x1), (2, .int x2), (3, .int x3)] [] (f_X2_isIn_7 n x0 x1 x2 x3 σ) := by
  intro n
  induction n with
  | zero => intros; exact rx_none
  | succ n hk_7 =>
    intro x0 x1 x2 x3 σ
    rw [f_X2_isIn_7.eq_2]
    refine rx_iload_n C 3 dX2_isIn_7 rfl rfl ?_
    refine rx_iload_n C 2 dX2_isIn_8 rfl rfl ?_
    refine rx_icmp_ge C (tgt := 29) dX2_isIn_9 (by decide) (fun _ => ?_) (fun _ => ?_)
    · refine rx_iconst C dX2_isIn_29 ic_0 ?_
      exact rx_zretC C dX2_isIn_30 rfl
    · refine rx_iload_n C 0 dX2_isIn_12 rfl rfl ?_
      refine rx_iload_n C 3 dX2_isIn_13 rfl rfl ?_
      refine rx_callSi C [.int x0, .int x3] [] (m_X8_letterOf z.l C.inj x0 x3 σ) ms_X8_letterOf lk_X2_127 rfl rfl (Nat.le_of_ble_eq_true rfl) ⟨Nat.le_of_ble_eq_true rfl, Nat.le_of_ble_eq_true rfl⟩ dX2_isIn_14 (fun q4 => ?_)
      refine rx_iload_n C 1 dX2_isIn_17 rfl rfl ?_
      refine rx_icmp_ne C (tgt := 23) dX2_isIn_18 (by decide) (fun _ => ?_) (fun _ => ?_)
      · refine rx_iconst C dX2_isIn_21 ic_1 ?_
        exact rx_zretC C dX2_isIn_22 rfl
      · refine rx_iinc C (k0 := 3) (v := x3 + (1 : Int32)) [(3, .int (x3 + (1 : Int32))), (0, .int x0), (1, .int x1), (2, .int x2)] dX2_isIn_23 rfl (congrArg _ ic_1) (by decide) rfl ?_
        refine rx_goto C (tgt := 7) dX2_isIn_26 (by decide) ?_
        exact RX.loc (hk_7 x0 x1 x2 (x3 + (1 : Int32)) q4.2) [1, 2, 3, 0] rfl
set_option maxRecDepth 100000 in
set_option maxHeartbeats 4000000 in
theorem w_X2_isIn_e {α : Nat → Nat} {D : va_G} {cA : Nat → ClassId} {z : Cz} (C : CX shX α D cA z RX2 cX2_isIn 4 (some .boolean) 1 21) (x0 : Int32) (x1 : Int32) (σ : St) : RX emI shX α D cA z 4 σ 0 [(0, .int x0), (1, .int x1)] [] (f_X2_isIn x0 x1 σ) := by
  unfold f_X2_isIn
  refine rx_iload_n C 0 dX2_isIn_0 rfl rfl ?_
  refine rx_callSi C [.int x0] [] (m_X8_lengthOf z.l C.inj x0 σ) ms_X8_lengthOf lk_X2_124 rfl rfl (Nat.le_of_ble_eq_true rfl) ⟨Nat.le_of_ble_eq_true rfl, Nat.le_of_ble_eq_true rfl⟩ dX2_isIn_1 (fun q3 => ?_)
  refine rx_istore_n C [(2, .int q3.1), (0, .int x0), (1, .int x1)] dX2_isIn_4 rfl (by decide) rfl ?_
  refine rx_iconst C dX2_isIn_5 ic_0 ?_
  refine rx_istore_n C [(3, .int (0 : Int32)), (2, .int q3.1), (0, .int x0), (1, .int x1)] dX2_isIn_6 rfl (by decide) rfl ?_
  exact RX.loc (w_X2_isIn_7 C FU x0 x1 q3.1 (0 : Int32) q3.2) [2, 3, 1, 0] rfl
theorem m_X2_isIn (l : Launch) {α : Nat → Nat} {D : va_G} {cA : Nat → ClassId} (hin : inj shX.length α) (x0 : Int32) (x1 : Int32) (σ : St) : CT shX l yX2_isIn cX2_isIn 4 (some .boolean) 1 21 emI α D cA [.int x0, .int x1] σ (f_X2_isIn x0 x1 σ) := ct_of rfl (Nat.le_of_ble_eq_true rfl) hin (fun z _ C => w_X2_isIn_e C x0 x1 σ)
set_option maxRecDepth 100000 in
set_option maxHeartbeats 4000000 in
theorem w_X2_titleWith_45 {α : Nat → Nat} {D : va_G} {cA : Nat → ClassId} {z : Cz} (C : CX shX α D cA z RX2 cX2_titleWith 4 (some .int) 2 44) (k_2 : Int32 → Int32 → Int32 → St → Option (Int32 × St)) (hk_2 : ∀ (x1 : Int32) (x2 : Int32) (x3 : Int32) (σ : St), RX emI shX α D cA z 4 σ 2 [(0, .ref (α 6)), (1, .int x1), (2, .int x2), (3, .int x3)] [] (k_2 x1 x2 x3 σ)) (x1 : Int32) (x2 : Int32) (x3 : Int32) (σ : St) : RX emI shX α D cA z 4 σ 45 [(0, .ref (α 6)), (1, .int x1), (2, .int x2), (3, .int x3)] [] (f_X2_titleWith_45 k_2 x1 x2 x3 σ) := by
  unfold f_X2_titleWith_45
  refine rx_iinc C (k0 := 3) (v := x3 + (1 : Int32)) [(3, .int (x3 + (1 : Int32))), (0, .ref (α 6)), (1, .int x1), (2, .int x2)] dX2_titleWith_45 rfl (congrArg _ ic_1) (by decide) rfl ?_
  refine rx_goto C (tgt := 2) dX2_titleWith_48 (by decide) ?_
  exact RX.loc (hk_2 x1 x2 (x3 + (1 : Int32)) σ) [1, 2, 3, 0] rfl
set_option maxRecDepth 100000 in
set_option maxHeartbeats 4000000 in
theorem w_X2_titleWith_2 {α : Nat → Nat} {D : va_G} {cA : Nat → ClassId} {z : Cz} (C : CX shX α D cA z RX2 cX2_titleWith 4 (some .int) 2 44) : ∀ (n : Nat) (x1 : Int32) (x2 : Int32) (x3 : Int32) (σ : St), RX emI shX α D cA z 4 σ 2 [(0, .ref (α 6)), (1, .int x1), (2, .int x2), (3, .int x3)] [] (f_X2_titleWith_2 n x1 x2 x3 σ) := by
  intro n
  induction n with
  | zero => intros; exact rx_none
  | succ n hk_2 =>
    intro x1 x2 x3 σ
    rw [f_X2_titleWith_2.eq_2]
    refine rx_iload_n C 3 dX2_titleWith_2 rfl rfl ?_
    refine rx_aload_n C 0 dX2_titleWith_3 rfl rfl ?_
    refine rx_getR C (k := 0) sx_6 fc_X2 (by decide) rfl lk_X2_9 dX2_titleWith_4 ?_
    refine rx_ltr (fun g6 => ?_)
    refine rx_if (fun hg6 => ?_) (fun _ => rx_none)
    refine rx_getC C (k := 1) (ld_sh (landB_is hg6)) fc_X4 (by decide) (g6 + 4) rfl lk_X2_97 dX2_titleWith_7 ?_
    refine rx_getI C (k := 4) (ro_sh (ld_4 (landB_is hg6))) fc_X8 (by decide) rfl lk_X2_103 dX2_titleWith_10 ?_
    refine rx_icmp_ge C (tgt := 51) dX2_titleWith_13 (by decide) (fun _ => ?_) (fun _ => ?_)
    · refine rx_iconst C dX2_titleWith_51 ic_m1 ?_
      exact rx_iret C dX2_titleWith_52
    · refine rx_aload_n C 0 dX2_titleWith_16 rfl rfl ?_
      refine rx_iload_n C 1 dX2_titleWith_17 rfl rfl ?_
      refine rx_iload_n C 3 dX2_titleWith_18 rfl rfl ?_
      refine rx_callVi C [.int x1, .int x3] [] (m_X2_bears z.l C.inj x1 x3 σ) mv_X2_bears lk_X2_99 sx_6 rfl rfl rfl (Nat.le_of_ble_eq_true rfl) ⟨Nat.le_of_ble_eq_true rfl, Nat.le_of_ble_eq_true rfl⟩ dX2_titleWith_19 (fun q7 => ?_)
      refine rx_if_eq C (tgt := 45) dX2_titleWith_22 (by decide) (fun _ => ?_) (fun _ => ?_)
      · exact RX.loc (w_X2_titleWith_45 C (f_X2_titleWith_2 n) hk_2 x1 x2 x3 q7.2) [0, 1, 2, 3] rfl
      · refine rx_aload_n C 0 dX2_titleWith_25 rfl rfl ?_
        refine rx_getR C (k := 0) sx_6 fc_X2 (by decide) rfl lk_X2_9 dX2_titleWith_26 ?_
        refine rx_ltr (fun g8 => ?_)
        refine rx_if (fun hg8 => ?_) (fun _ => rx_none)
        refine rx_getC C (k := 1) (ld_sh (landB_is hg8)) fc_X4 (by decide) (g8 + 4) rfl lk_X2_97 dX2_titleWith_29 ?_
        refine rx_iload_n C 3 dX2_titleWith_32 rfl rfl ?_
        refine rx_callVi C [.int x3] [] (m_X8_name z.l C.inj (g8 + 4) (ld_4 (landB_is hg8)) x3 q7.2) mv_X8_name lk_X2_120 (ro_sh (ld_4 (landB_is hg8))) rfl rfl rfl (Nat.le_of_ble_eq_true rfl) ⟨Nat.le_of_ble_eq_true rfl, Nat.le_of_ble_eq_true rfl⟩ dX2_titleWith_33 (fun q9 => ?_)
        refine rx_iload_n C 2 dX2_titleWith_36 rfl rfl ?_
        refine rx_callSi C [.int q9.1, .int x2] [] (m_X2_isIn z.l C.inj q9.1 x2 q9.2) ms_X2_isIn lk_X2_191 rfl rfl (Nat.le_of_ble_eq_true rfl) ⟨Nat.le_of_ble_eq_true rfl, Nat.le_of_ble_eq_true rfl⟩ dX2_titleWith_37 (fun q10 => ?_)
        refine rx_if_eq C (tgt := 45) dX2_titleWith_40 (by decide) (fun _ => ?_) (fun _ => ?_)
        · exact RX.loc (w_X2_titleWith_45 C (f_X2_titleWith_2 n) hk_2 x1 x2 x3 q10.2) [0, 1, 2, 3] rfl
        · refine rx_iload_n C 3 dX2_titleWith_43 rfl rfl ?_
          exact rx_iret C dX2_titleWith_44
set_option maxRecDepth 100000 in
set_option maxHeartbeats 4000000 in
theorem w_X2_titleWith_e {α : Nat → Nat} {D : va_G} {cA : Nat → ClassId} {z : Cz} (C : CX shX α D cA z RX2 cX2_titleWith 4 (some .int) 2 44) (x1 : Int32) (x2 : Int32) (σ : St) : RX emI shX α D cA z 4 σ 0 [(0, .ref (α 6)), (1, .int x1), (2, .int x2)] [] (f_X2_titleWith x1 x2 σ) := by
  unfold f_X2_titleWith
  refine rx_iconst C dX2_titleWith_0 ic_0 ?_
  refine rx_istore_n C [(3, .int (0 : Int32)), (0, .ref (α 6)), (1, .int x1), (2, .int x2)] dX2_titleWith_1 rfl (by decide) rfl ?_
  exact RX.loc (w_X2_titleWith_2 C FU x1 x2 (0 : Int32) σ) [1, 2, 3, 0] rfl
theorem m_X2_titleWith (l : Launch) {α : Nat → Nat} {D : va_G} {cA : Nat → ClassId} (hin : inj shX.length α) (x1 : Int32) (x2 : Int32) (σ : St) : CT shX l yX2_titleWith cX2_titleWith 4 (some .int) 2 44 emI α D cA [.ref (α 6), .int x1, .int x2] σ (f_X2_titleWith x1 x2 σ) := ct_of rfl (Nat.le_of_ble_eq_true rfl) hin (fun z _ C => w_X2_titleWith_e C x1 x2 σ)
set_option maxRecDepth 100000 in
set_option maxHeartbeats 4000000 in
theorem w_X1_takeLetter_32 {α : Nat → Nat} {D : va_G} {cA : Nat → ClassId} {z : Cz} (C : CX shX α D cA z RX1 cX1_takeLetter 5 (some .boolean) 3 68) (σ : St) : RX emI shX α D cA z 5 σ 32 [] [] (f_X1_takeLetter_32 σ) := by
  unfold f_X1_takeLetter_32
  refine rx_iconst C dX1_takeLetter_32 ic_0 ?_
  exact rx_zretC C dX1_takeLetter_33 rfl
set_option maxRecDepth 100000 in
set_option maxHeartbeats 4000000 in
theorem w_X1_takeLetter_85 {α : Nat → Nat} {D : va_G} {cA : Nat → ClassId} {z : Cz} (C : CX shX α D cA z RX1 cX1_takeLetter 5 (some .boolean) 3 68) (x1 : Int32) (x2 : Int32) (x3 : Int32) (σ : St) : RX emI shX α D cA z 5 σ 85 [(0, .ref (α 18)), (1, .int x1), (2, .int x2), (3, .int x3)] [] (f_X1_takeLetter_85 x1 x2 x3 σ) := by
  unfold f_X1_takeLetter_85
  refine rx_aload_n C 0 dX1_takeLetter_85 rfl rfl ?_
  refine rx_getC C (k := 0) sx_18 fc_X1 (by decide) 6 rfl lk_X1_9 dX1_takeLetter_86 ?_
  refine rx_iload_n C 2 dX1_takeLetter_89 rfl rfl ?_
  refine rx_iload_n C 3 dX1_takeLetter_90 rfl rfl ?_
  refine rx_iconst C dX1_takeLetter_91 ic_m1 ?_
  refine rx_callVv C [.int x2, .int x3, .int (-1 : Int32)] [] (m_X2_change z.l C.inj x2 x3 (-1 : Int32) σ) mv_X2_change lk_X1_104 sx_6 rfl rfl rfl (Nat.le_of_ble_eq_true rfl) ⟨Nat.le_of_ble_eq_true rfl, Nat.le_of_ble_eq_true rfl⟩ dX1_takeLetter_92 (fun q15 => ?_)
  refine rx_aload_n C 0 dX1_takeLetter_95 rfl rfl ?_
  refine rx_getC C (k := 0) sx_18 fc_X1 (by decide) 6 rfl lk_X1_9 dX1_takeLetter_96 ?_
  refine rx_iload_n C 1 dX1_takeLetter_99 rfl rfl ?_
  refine rx_iload_n C 3 dX1_takeLetter_100 rfl rfl ?_
  refine rx_iconst C dX1_takeLetter_101 ic_1 ?_
  refine rx_callVv C [.int x1, .int x3, .int (1 : Int32)] [] (m_X2_change z.l C.inj x1 x3 (1 : Int32) q15.2) mv_X2_change lk_X1_104 sx_6 rfl rfl rfl (Nat.le_of_ble_eq_true rfl) ⟨Nat.le_of_ble_eq_true rfl, Nat.le_of_ble_eq_true rfl⟩ dX1_takeLetter_102 (fun q16 => ?_)
  refine rx_aload_n C 0 dX1_takeLetter_105 rfl rfl ?_
  refine rx_iconst C dX1_takeLetter_106 ic_2 ?_
  refine rx_iload_n C 1 dX1_takeLetter_107 rfl rfl ?_
  refine rx_iload_n C 2 dX1_takeLetter_108 rfl rfl ?_
  refine rx_aload_n C 0 dX1_takeLetter_109 rfl rfl ?_
  refine rx_getC C (k := 0) sx_18 fc_X1 (by decide) 6 rfl lk_X1_9 dX1_takeLetter_110 ?_
  refine rx_getR C (k := 0) sx_6 fc_X2 (by decide) rfl lk_X1_85 dX1_takeLetter_113 ?_
  refine rx_ltr (fun g17 => ?_)
  refine rx_if (fun hg17 => ?_) (fun _ => rx_none)
  refine rx_iload_n C 3 dX1_takeLetter_116 rfl rfl ?_
  refine rx_callVi C [.int x3] [.int x2, .int x1, .int (2 : Int32), .ref (α 18)] (m_X4_ouncesOf z.l C.inj g17 (landB_is hg17) x3 q16.2) mv_X4_ouncesOf lk_X1_108 (ld_sh (landB_is hg17)) rfl rfl rfl (Nat.le_of_ble_eq_true rfl) ⟨Nat.le_of_ble_eq_true rfl, Nat.le_of_ble_eq_true rfl⟩ dX1_takeLetter_117 (fun q18 => ?_)
  refine rx_callVv C [.int (2 : Int32), .int x1, .int x2, .int q18.1] [] (m_X1_note z.l C.inj (2 : Int32) x1 x2 q18.1 q18.2) mv_X1_note lk_X1_67 sx_18 rfl rfl rfl (Nat.le_of_ble_eq_true rfl) ⟨Nat.le_of_ble_eq_true rfl, Nat.le_of_ble_eq_true rfl⟩ dX1_takeLetter_120 (fun q19 => ?_)
  refine rx_iconst C dX1_takeLetter_123 ic_1 ?_
  exact rx_zretC C dX1_takeLetter_124 rfl
set_option maxRecDepth 100000 in
set_option maxHeartbeats 4000000 in
theorem w_X1_takeLetter_e {α : Nat → Nat} {D : va_G} {cA : Nat → ClassId} {z : Cz} (C : CX shX α D cA z RX1 cX1_takeLetter 5 (some .boolean) 3 68) (x1 : Int32) (x2 : Int32) (x3 : Int32) (σ : St) : RX emI shX α D cA z 5 σ 0 [(0, .ref (α 18)), (1, .int x1), (2, .int x2), (3, .int x3)] [] (f_X1_takeLetter x1 x2 x3 σ) := by
  unfold f_X1_takeLetter
  refine rx_aload_n C 0 dX1_takeLetter_0 rfl rfl ?_
  refine rx_getC C (k := 0) sx_18 fc_X1 (by decide) 6 rfl lk_X1_9 dX1_takeLetter_1 ?_
  refine rx_iload_n C 1 dX1_takeLetter_4 rfl rfl ?_
  refine rx_callVi C [.int x1] [] (m_X2_isPerson z.l C.inj x1 σ) mv_X2_isPerson lk_X1_94 sx_6 rfl rfl rfl (Nat.le_of_ble_eq_true rfl) ⟨Nat.le_of_ble_eq_true rfl, Nat.le_of_ble_eq_true rfl⟩ dX1_takeLetter_5 (fun q12 => ?_)
  refine rx_if_eq C (tgt := 32) dX1_takeLetter_8 (by decide) (fun _ => ?_) (fun _ => ?_)
  · exact RX.loc (w_X1_takeLetter_32 C q12.2) [] rfl
  · refine rx_aload_n C 0 dX1_takeLetter_11 rfl rfl ?_
    refine rx_getC C (k := 0) sx_18 fc_X1 (by decide) 6 rfl lk_X1_9 dX1_takeLetter_12 ?_
    refine rx_iload_n C 2 dX1_takeLetter_15 rfl rfl ?_
    refine rx_callVi C [.int x2] [] (m_X2_isPerson z.l C.inj x2 q12.2) mv_X2_isPerson lk_X1_94 sx_6 rfl rfl rfl (Nat.le_of_ble_eq_true rfl) ⟨Nat.le_of_ble_eq_true rfl, Nat.le_of_ble_eq_true rfl⟩ dX1_takeLetter_16 (fun q13 => ?_)
    refine rx_if_eq C (tgt := 32) dX1_takeLetter_19 (by decide) (fun _ => ?_) (fun _ => ?_)
    · exact RX.loc (w_X1_takeLetter_32 C q13.2) [] rfl
    · refine rx_iload_n C 1 dX1_takeLetter_22 rfl rfl ?_
      refine rx_iload_n C 2 dX1_takeLetter_23 rfl rfl ?_
      refine rx_icmp_eq C (tgt := 32) dX1_takeLetter_24 (by decide) (fun _ => ?_) (fun _ => ?_)
      · exact RX.loc (w_X1_takeLetter_32 C q13.2) [] rfl
      · refine rx_iload_n C 3 dX1_takeLetter_27 rfl rfl ?_
        refine rx_iconst C dX1_takeLetter_28 ic_m1 ?_
        refine rx_icmp_ne C (tgt := 34) dX1_takeLetter_29 (by decide) (fun _ => ?_) (fun _ => ?_)
        · exact RX.loc (w_X1_takeLetter_32 C q13.2) [] rfl
        · refine rx_aload_n C 0 dX1_takeLetter_34 rfl rfl ?_
          refine rx_getC C (k := 0) sx_18 fc_X1 (by decide) 6 rfl lk_X1_9 dX1_takeLetter_35 ?_
          refine rx_iload_n C 2 dX1_takeLetter_38 rfl rfl ?_
          refine rx_iload_n C 3 dX1_takeLetter_39 rfl rfl ?_
          refine rx_callVi C [.int x2, .int x3] [] (m_X2_count z.l C.inj x2 x3 q13.2) mv_X2_count lk_X1_98 sx_6 rfl rfl rfl (Nat.le_of_ble_eq_true rfl) ⟨Nat.le_of_ble_eq_true rfl, Nat.le_of_ble_eq_true rfl⟩ dX1_takeLetter_40 (fun q14 => ?_)
          refine rx_if_gt C (tgt := 85) dX1_takeLetter_43 (by decide) (fun _ => ?_) (fun _ => ?_)
          · exact RX.loc (w_X1_takeLetter_85 C x1 x2 x3 q14.2) [0, 1, 2, 3] rfl
          · refine rx_aload_n C 0 dX1_takeLetter_46 rfl rfl ?_
            refine rx_getC C (k := 0) sx_18 fc_X1 (by decide) 6 rfl lk_X1_9 dX1_takeLetter_47 ?_
            refine rx_iload_n C 2 dX1_takeLetter_50 rfl rfl ?_
            refine rx_iload_n C 3 dX1_takeLetter_51 rfl rfl ?_
            refine rx_callVi C [.int x2, .int x3] [] (m_X2_titleWith z.l C.inj x2 x3 q14.2) mv_X2_titleWith lk_X1_101 sx_6 rfl rfl rfl (Nat.le_of_ble_eq_true rfl) ⟨Nat.le_of_ble_eq_true rfl, Nat.le_of_ble_eq_true rfl⟩ dX1_takeLetter_52 (fun q20 => ?_)
            refine rx_istore C [(4, .int q20.1), (0, .ref (α 18)), (1, .int x1), (2, .int x2), (3, .int x3)] dX1_takeLetter_55 (by decide) rfl ?_
            refine rx_iload C 0 dX1_takeLetter_57 rfl ?_
            refine rx_iconst C dX1_takeLetter_59 ic_m1 ?_
            refine rx_icmp_ne C (tgt := 65) dX1_takeLetter_60 (by decide) (fun _ => ?_) (fun _ => ?_)
            · refine rx_iconst C dX1_takeLetter_63 ic_0 ?_
              exact rx_zretC C dX1_takeLetter_64 rfl
            · refine rx_aload_n C 1 dX1_takeLetter_65 rfl rfl ?_
              refine rx_getC C (k := 0) sx_18 fc_X1 (by decide) 6 rfl lk_X1_9 dX1_takeLetter_66 ?_
              refine rx_iload_n C 3 dX1_takeLetter_69 rfl rfl ?_
              refine rx_iload C 0 dX1_takeLetter_70 rfl ?_
              refine rx_callVv C [.int x2, .int q20.1] [] (m_X2_go z.l C.inj x2 q20.1 q20.2) mv_X2_go lk_X1_79 sx_6 rfl rfl rfl (Nat.le_of_ble_eq_true rfl) ⟨Nat.le_of_ble_eq_true rfl, Nat.le_of_ble_eq_true rfl⟩ dX1_takeLetter_72 (fun q21 => ?_)
              refine rx_aload_n C 1 dX1_takeLetter_75 rfl rfl ?_
              refine rx_getC C (k := 0) sx_18 fc_X1 (by decide) 6 rfl lk_X1_9 dX1_takeLetter_76 ?_
              refine rx_iload C 0 dX1_takeLetter_79 rfl ?_
              refine rx_iload_n C 3 dX1_takeLetter_81 rfl rfl ?_
              refine rx_callVv C [.int q20.1, .int x2] [] (m_X2_scatter z.l C.inj q20.1 x2 q21.2) mv_X2_scatter lk_X1_82 sx_6 rfl rfl rfl (Nat.le_of_ble_eq_true rfl) ⟨Nat.le_of_ble_eq_true rfl, Nat.le_of_ble_eq_true rfl⟩ dX1_takeLetter_82 (fun q22 => ?_)
              exact RX.loc (w_X1_takeLetter_85 C x1 x2 x3 q22.2) [1, 2, 3, 4] rfl
theorem m_X1_takeLetter (l : Launch) {α : Nat → Nat} {D : va_G} {cA : Nat → ClassId} (hin : inj shX.length α) (x1 : Int32) (x2 : Int32) (x3 : Int32) (σ : St) : CT shX l yX1_takeLetter cX1_takeLetter 5 (some .boolean) 3 68 emI α D cA [.ref (α 18), .int x1, .int x2, .int x3] σ (f_X1_takeLetter x1 x2 x3 σ) := ct_of rfl (Nat.le_of_ble_eq_true rfl) hin (fun z _ C => w_X1_takeLetter_e C x1 x2 x3 σ)
set_option maxRecDepth 100000 in
set_option maxHeartbeats 4000000 in
theorem w_X1_swapLetters_69 {α : Nat → Nat} {D : va_G} {cA : Nat → ClassId} {z : Cz} (C : CX shX α D cA z RX1 cX1_swapLetters 5 (some .boolean) 3 68) (σ : St) : RX emI shX α D cA z 5 σ 69 [] [] (f_X1_swapLetters_69 σ) := by
  unfold f_X1_swapLetters_69
  refine rx_iconst C dX1_swapLetters_69 ic_0 ?_
  exact rx_zretC C dX1_swapLetters_70 rfl
set_option maxRecDepth 100000 in
set_option maxHeartbeats 4000000 in
theorem w_X1_swapLetters_e {α : Nat → Nat} {D : va_G} {cA : Nat → ClassId} {z : Cz} (C : CX shX α D cA z RX1 cX1_swapLetters 5 (some .boolean) 3 68) (x1 : Int32) (x2 : Int32) (x3 : Int32) (x4 : Int32) (σ : St) : RX emI shX α D cA z 5 σ 0 [(0, .ref (α 18)), (1, .int x1), (2, .int x2), (3, .int x3), (4, .int x4)] [] (f_X1_swapLetters x1 x2 x3 x4 σ) := by
  unfold f_X1_swapLetters
  refine rx_aload_n C 0 dX1_swapLetters_0 rfl rfl ?_
  refine rx_getC C (k := 0) sx_18 fc_X1 (by decide) 6 rfl lk_X1_9 dX1_swapLetters_1 ?_
  refine rx_iload_n C 1 dX1_swapLetters_4 rfl rfl ?_
  refine rx_callVi C [.int x1] [] (m_X2_isPerson z.l C.inj x1 σ) mv_X2_isPerson lk_X1_94 sx_6 rfl rfl rfl (Nat.le_of_ble_eq_true rfl) ⟨Nat.le_of_ble_eq_true rfl, Nat.le_of_ble_eq_true rfl⟩ dX1_swapLetters_5 (fun q12 => ?_)
  refine rx_if_eq C (tgt := 69) dX1_swapLetters_8 (by decide) (fun _ => ?_) (fun _ => ?_)
  · exact RX.loc (w_X1_swapLetters_69 C q12.2) [] rfl
  · refine rx_aload_n C 0 dX1_swapLetters_11 rfl rfl ?_
    refine rx_getC C (k := 0) sx_18 fc_X1 (by decide) 6 rfl lk_X1_9 dX1_swapLetters_12 ?_
    refine rx_iload_n C 3 dX1_swapLetters_15 rfl rfl ?_
    refine rx_callVi C [.int x3] [] (m_X2_isPerson z.l C.inj x3 q12.2) mv_X2_isPerson lk_X1_94 sx_6 rfl rfl rfl (Nat.le_of_ble_eq_true rfl) ⟨Nat.le_of_ble_eq_true rfl, Nat.le_of_ble_eq_true rfl⟩ dX1_swapLetters_16 (fun q13 => ?_)
    refine rx_if_eq C (tgt := 69) dX1_swapLetters_19 (by decide) (fun _ => ?_) (fun _ => ?_)
    · exact RX.loc (w_X1_swapLetters_69 C q13.2) [] rfl
    · refine rx_iload_n C 1 dX1_swapLetters_22 rfl rfl ?_
      refine rx_iload_n C 3 dX1_swapLetters_23 rfl rfl ?_
      refine rx_icmp_eq C (tgt := 69) dX1_swapLetters_24 (by decide) (fun _ => ?_) (fun _ => ?_)
      · exact RX.loc (w_X1_swapLetters_69 C q13.2) [] rfl
      · refine rx_iload_n C 2 dX1_swapLetters_27 rfl rfl ?_
        refine rx_iconst C dX1_swapLetters_28 ic_m1 ?_
        refine rx_icmp_eq C (tgt := 69) dX1_swapLetters_29 (by decide) (fun _ => ?_) (fun _ => ?_)
        · exact RX.loc (w_X1_swapLetters_69 C q13.2) [] rfl
        · refine rx_iload C 4 dX1_swapLetters_32 rfl ?_
          refine rx_iconst C dX1_swapLetters_34 ic_m1 ?_
          refine rx_icmp_eq C (tgt := 69) dX1_swapLetters_35 (by decide) (fun _ => ?_) (fun _ => ?_)
          · exact RX.loc (w_X1_swapLetters_69 C q13.2) [] rfl
          · refine rx_iload_n C 2 dX1_swapLetters_38 rfl rfl ?_
            refine rx_iload C 4 dX1_swapLetters_39 rfl ?_
            refine rx_icmp_eq C (tgt := 69) dX1_swapLetters_41 (by decide) (fun _ => ?_) (fun _ => ?_)
            · exact RX.loc (w_X1_swapLetters_69 C q13.2) [] rfl
            · refine rx_aload_n C 0 dX1_swapLetters_44 rfl rfl ?_
              refine rx_getC C (k := 0) sx_18 fc_X1 (by decide) 6 rfl lk_X1_9 dX1_swapLetters_45 ?_
              refine rx_iload_n C 1 dX1_swapLetters_48 rfl rfl ?_
              refine rx_iload_n C 2 dX1_swapLetters_49 rfl rfl ?_
              refine rx_callVi C [.int x1, .int x2] [] (m_X2_count z.l C.inj x1 x2 q13.2) mv_X2_count lk_X1_98 sx_6 rfl rfl rfl (Nat.le_of_ble_eq_true rfl) ⟨Nat.le_of_ble_eq_true rfl, Nat.le_of_ble_eq_true rfl⟩ dX1_swapLetters_50 (fun q14 => ?_)
              refine rx_if_le C (tgt := 69) dX1_swapLetters_53 (by decide) (fun _ => ?_) (fun _ => ?_)
              · exact RX.loc (w_X1_swapLetters_69 C q14.2) [] rfl
              · refine rx_aload_n C 0 dX1_swapLetters_56 rfl rfl ?_
                refine rx_getC C (k := 0) sx_18 fc_X1 (by decide) 6 rfl lk_X1_9 dX1_swapLetters_57 ?_
                refine rx_iload_n C 3 dX1_swapLetters_60 rfl rfl ?_
                refine rx_iload C 4 dX1_swapLetters_61 rfl ?_
                refine rx_callVi C [.int x3, .int x4] [] (m_X2_count z.l C.inj x3 x4 q14.2) mv_X2_count lk_X1_98 sx_6 rfl rfl rfl (Nat.le_of_ble_eq_true rfl) ⟨Nat.le_of_ble_eq_true rfl, Nat.le_of_ble_eq_true rfl⟩ dX1_swapLetters_63 (fun q15 => ?_)
                refine rx_if_gt C (tgt := 71) dX1_swapLetters_66 (by decide) (fun _ => ?_) (fun _ => ?_)
                · refine rx_aload_n C 0 dX1_swapLetters_71 rfl rfl ?_
                  refine rx_getC C (k := 0) sx_18 fc_X1 (by decide) 6 rfl lk_X1_9 dX1_swapLetters_72 ?_
                  refine rx_iload_n C 1 dX1_swapLetters_75 rfl rfl ?_
                  refine rx_iload_n C 2 dX1_swapLetters_76 rfl rfl ?_
                  refine rx_iconst C dX1_swapLetters_77 ic_m1 ?_
                  refine rx_callVv C [.int x1, .int x2, .int (-1 : Int32)] [] (m_X2_change z.l C.inj x1 x2 (-1 : Int32) q15.2) mv_X2_change lk_X1_104 sx_6 rfl rfl rfl (Nat.le_of_ble_eq_true rfl) ⟨Nat.le_of_ble_eq_true rfl, Nat.le_of_ble_eq_true rfl⟩ dX1_swapLetters_78 (fun q16 => ?_)
                  refine rx_aload_n C 0 dX1_swapLetters_81 rfl rfl ?_
                  refine rx_getC C (k := 0) sx_18 fc_X1 (by decide) 6 rfl lk_X1_9 dX1_swapLetters_82 ?_
                  refine rx_iload_n C 3 dX1_swapLetters_85 rfl rfl ?_
                  refine rx_iload_n C 2 dX1_swapLetters_86 rfl rfl ?_
                  refine rx_iconst C dX1_swapLetters_87 ic_1 ?_
                  refine rx_callVv C [.int x3, .int x2, .int (1 : Int32)] [] (m_X2_change z.l C.inj x3 x2 (1 : Int32) q16.2) mv_X2_change lk_X1_104 sx_6 rfl rfl rfl (Nat.le_of_ble_eq_true rfl) ⟨Nat.le_of_ble_eq_true rfl, Nat.le_of_ble_eq_true rfl⟩ dX1_swapLetters_88 (fun q17 => ?_)
                  refine rx_aload_n C 0 dX1_swapLetters_91 rfl rfl ?_
                  refine rx_getC C (k := 0) sx_18 fc_X1 (by decide) 6 rfl lk_X1_9 dX1_swapLetters_92 ?_
                  refine rx_iload_n C 3 dX1_swapLetters_95 rfl rfl ?_
                  refine rx_iload C 4 dX1_swapLetters_96 rfl ?_
                  refine rx_iconst C dX1_swapLetters_98 ic_m1 ?_
                  refine rx_callVv C [.int x3, .int x4, .int (-1 : Int32)] [] (m_X2_change z.l C.inj x3 x4 (-1 : Int32) q17.2) mv_X2_change lk_X1_104 sx_6 rfl rfl rfl (Nat.le_of_ble_eq_true rfl) ⟨Nat.le_of_ble_eq_true rfl, Nat.le_of_ble_eq_true rfl⟩ dX1_swapLetters_99 (fun q18 => ?_)
                  refine rx_aload_n C 0 dX1_swapLetters_102 rfl rfl ?_
                  refine rx_getC C (k := 0) sx_18 fc_X1 (by decide) 6 rfl lk_X1_9 dX1_swapLetters_103 ?_
                  refine rx_iload_n C 1 dX1_swapLetters_106 rfl rfl ?_
                  refine rx_iload C 4 dX1_swapLetters_107 rfl ?_
                  refine rx_iconst C dX1_swapLetters_109 ic_1 ?_
                  refine rx_callVv C [.int x1, .int x4, .int (1 : Int32)] [] (m_X2_change z.l C.inj x1 x4 (1 : Int32) q18.2) mv_X2_change lk_X1_104 sx_6 rfl rfl rfl (Nat.le_of_ble_eq_true rfl) ⟨Nat.le_of_ble_eq_true rfl, Nat.le_of_ble_eq_true rfl⟩ dX1_swapLetters_110 (fun q19 => ?_)
                  refine rx_aload_n C 0 dX1_swapLetters_113 rfl rfl ?_
                  refine rx_iconst C dX1_swapLetters_114 ic_3 ?_
                  refine rx_iload_n C 1 dX1_swapLetters_115 rfl rfl ?_
                  refine rx_iload_n C 3 dX1_swapLetters_116 rfl rfl ?_
                  refine rx_aload_n C 0 dX1_swapLetters_117 rfl rfl ?_
                  refine rx_getC C (k := 0) sx_18 fc_X1 (by decide) 6 rfl lk_X1_9 dX1_swapLetters_118 ?_
                  refine rx_getR C (k := 0) sx_6 fc_X2 (by decide) rfl lk_X1_85 dX1_swapLetters_121 ?_
                  refine rx_ltr (fun g20 => ?_)
                  refine rx_if (fun hg20 => ?_) (fun _ => rx_none)
                  refine rx_iload_n C 2 dX1_swapLetters_124 rfl rfl ?_
                  refine rx_callVi C [.int x2] [.int x3, .int x1, .int (3 : Int32), .ref (α 18)] (m_X4_ouncesOf z.l C.inj g20 (landB_is hg20) x2 q19.2) mv_X4_ouncesOf lk_X1_108 (ld_sh (landB_is hg20)) rfl rfl rfl (Nat.le_of_ble_eq_true rfl) ⟨Nat.le_of_ble_eq_true rfl, Nat.le_of_ble_eq_true rfl⟩ dX1_swapLetters_125 (fun q21 => ?_)
                  refine rx_callVv C [.int (3 : Int32), .int x1, .int x3, .int q21.1] [] (m_X1_note z.l C.inj (3 : Int32) x1 x3 q21.1 q21.2) mv_X1_note lk_X1_67 sx_18 rfl rfl rfl (Nat.le_of_ble_eq_true rfl) ⟨Nat.le_of_ble_eq_true rfl, Nat.le_of_ble_eq_true rfl⟩ dX1_swapLetters_128 (fun q22 => ?_)
                  refine rx_iconst C dX1_swapLetters_131 ic_1 ?_
                  exact rx_zretC C dX1_swapLetters_132 rfl
                · exact RX.loc (w_X1_swapLetters_69 C q15.2) [] rfl
theorem m_X1_swapLetters (l : Launch) {α : Nat → Nat} {D : va_G} {cA : Nat → ClassId} (hin : inj shX.length α) (x1 : Int32) (x2 : Int32) (x3 : Int32) (x4 : Int32) (σ : St) : CT shX l yX1_swapLetters cX1_swapLetters 5 (some .boolean) 3 68 emI α D cA [.ref (α 18), .int x1, .int x2, .int x3, .int x4] σ (f_X1_swapLetters x1 x2 x3 x4 σ) := ct_of rfl (Nat.le_of_ble_eq_true rfl) hin (fun z _ C => w_X1_swapLetters_e C x1 x2 x3 x4 σ)
set_option maxRecDepth 100000 in
set_option maxHeartbeats 4000000 in
theorem w_X8_isFull_16 {α : Nat → Nat} {D : va_G} {cA : Nat → ClassId} {z : Cz} (C : CX shX α D cA z RX8 cX8_isFull 1 (some .boolean) 0 0) (r0 : Nat) (hr0 : isRoll r0) (s0 : Int32) (σ : St) : RX emI shX α D cA z 1 σ 16 [] [.int s0] (f_X8_isFull_16 r0 s0 σ) := by
  unfold f_X8_isFull_16
  exact rx_zret C dX8_isFull_16
set_option maxRecDepth 100000 in
set_option maxHeartbeats 4000000 in
theorem w_X8_isFull_e {α : Nat → Nat} {D : va_G} {cA : Nat → ClassId} {z : Cz} (C : CX shX α D cA z RX8 cX8_isFull 1 (some .boolean) 0 0) (r0 : Nat) (hr0 : isRoll r0) (σ : St) : RX emI shX α D cA z 1 σ 0 [(0, .ref (α r0))] [] (f_X8_isFull r0 σ) := by
  unfold f_X8_isFull
  refine rx_aload_n C 0 dX8_isFull_0 rfl rfl ?_
  refine rx_getI C (k := 4) (ro_sh hr0) fc_X8 (by decide) rfl lk_X8_25 dX8_isFull_1 ?_
  refine rx_aload_n C 0 dX8_isFull_4 rfl rfl ?_
  refine rx_getI C (k := 0) (ro_sh hr0) fc_X8 (by decide) rfl lk_X8_9 dX8_isFull_5 ?_
  refine rx_icmp_lt C (tgt := 15) dX8_isFull_8 (by decide) (fun _ => ?_) (fun _ => ?_)
  · refine rx_iconst C dX8_isFull_15 ic_0 ?_
    exact RX.loc (w_X8_isFull_16 C r0 hr0 (0 : Int32) σ) [] rfl
  · refine rx_iconst C dX8_isFull_11 ic_1 ?_
    refine rx_goto C (tgt := 16) dX8_isFull_12 (by decide) ?_
    exact RX.loc (w_X8_isFull_16 C r0 hr0 (1 : Int32) σ) [] rfl
theorem m_X8_isFull (l : Launch) {α : Nat → Nat} {D : va_G} {cA : Nat → ClassId} (hin : inj shX.length α) (r0 : Nat) (hr0 : isRoll r0) (σ : St) : CT shX l yX8_isFull cX8_isFull 1 (some .boolean) 0 0 emI α D cA [.ref (α r0)] σ (f_X8_isFull r0 σ) := ct_of rfl (Nat.le_of_ble_eq_true rfl) hin (fun z _ C => w_X8_isFull_e C r0 hr0 σ)
set_option maxRecDepth 100000 in
set_option maxHeartbeats 4000000 in
theorem w_X8_add_e {α : Nat → Nat} {D : va_G} {cA : Nat → ClassId} {z : Cz} (C : CX shX α D cA z RX8 cX8_add 2 (some .int) 1 20) (r0 : Nat) (hr0 : isRoll r0) (x1 : Int32) (σ : St) : RX emI shX α D cA z 2 σ 0 [(0, .ref (α r0)), (1, .int x1)] [] (f_X8_add r0 x1 σ) := by
  unfold f_X8_add
  refine rx_aload_n C 0 dX8_add_0 rfl rfl ?_
  refine rx_callVi C [] [] (m_X8_isFull z.l C.inj r0 hr0 σ) mv_X8_isFull lk_X8_32 (ro_sh hr0) rfl rfl rfl (Nat.le_of_ble_eq_true rfl) ⟨Nat.le_of_ble_eq_true rfl, Nat.le_of_ble_eq_true rfl⟩ dX8_add_1 (fun q4 => ?_)
  refine rx_if_eq C (tgt := 9) dX8_add_4 (by decide) (fun _ => ?_) (fun _ => ?_)
  · refine rx_aload_n C 0 dX8_add_9 rfl rfl ?_
    refine rx_getC C (k := 2) (ro_sh hr0) fc_X8 (by decide) (r0 + 1) rfl lk_X8_18 dX8_add_10 ?_
    refine rx_aload_n C 0 dX8_add_13 rfl rfl ?_
    refine rx_getI C (k := 4) (ro_sh hr0) fc_X8 (by decide) rfl lk_X8_25 dX8_add_14 ?_
    refine rx_iload_n C 1 dX8_add_17 rfl rfl ?_
    refine rx_iast C (n := (lnX (r0 + 1))) (ro_1 hr0) dX8_add_18 (fun _ => ?_)
    refine rx_lts (fun σ5 => ?_)
    refine rx_aload_n C 0 dX8_add_19 rfl rfl ?_
    refine rx_dup C dX8_add_20 rfl ?_
    refine rx_getI C (k := 4) (ro_sh hr0) fc_X8 (by decide) rfl lk_X8_25 dX8_add_21 ?_
    refine rx_iconst C dX8_add_24 ic_1 ?_
    refine rx_iadd C dX8_add_25 ?_
    refine rx_putI C (k := 4) (ro_sh hr0) fc_X8 (by decide) rfl lk_X8_25 rfl ⟨rfl, rfl⟩ dX8_add_26 ?_
    refine rx_lts (fun σ6 => ?_)
    refine rx_aload_n C 0 dX8_add_29 rfl rfl ?_
    refine rx_getI C (k := 4) (ro_sh hr0) fc_X8 (by decide) rfl lk_X8_25 dX8_add_30 ?_
    refine rx_iconst C dX8_add_33 ic_1 ?_
    refine rx_isub C dX8_add_34 ?_
    exact rx_iret C dX8_add_35
  · refine rx_iconst C dX8_add_7 ic_m1 ?_
    exact rx_iret C dX8_add_8
theorem m_X8_add (l : Launch) {α : Nat → Nat} {D : va_G} {cA : Nat → ClassId} (hin : inj shX.length α) (r0 : Nat) (hr0 : isRoll r0) (x1 : Int32) (σ : St) : CT shX l yX8_add cX8_add 2 (some .int) 1 20 emI α D cA [.ref (α r0), .int x1] σ (f_X8_add r0 x1 σ) := ct_of rfl (Nat.le_of_ble_eq_true rfl) hin (fun z _ C => w_X8_add_e C r0 hr0 x1 σ)
set_option maxRecDepth 100000 in
set_option maxHeartbeats 4000000 in
theorem w_X8_put_34 {α : Nat → Nat} {D : va_G} {cA : Nat → ClassId} {z : Cz} (C : CX shX α D cA z RX8 cX8_put 4 none 1 21) (r0 : Nat) (hr0 : isRoll r0) (σ : St) : RX emV shX α D cA z 4 σ 34 [] [] (f_X8_put_34 r0 σ) := by
  unfold f_X8_put_34
  exact rx_vret C dX8_put_34
set_option maxRecDepth 100000 in
set_option maxHeartbeats 4000000 in
theorem w_X8_put_e {α : Nat → Nat} {D : va_G} {cA : Nat → ClassId} {z : Cz} (C : CX shX α D cA z RX8 cX8_put 4 none 1 21) (r0 : Nat) (hr0 : isRoll r0) (x1 : Int32) (x2 : Int32) (x3 : Int32) (σ : St) : RX emV shX α D cA z 4 σ 0 [(0, .ref (α r0)), (1, .int x1), (2, .int x2), (3, .int x3)] [] (f_X8_put r0 x1 x2 x3 σ) := by
  unfold f_X8_put
  refine rx_aload_n C 0 dX8_put_0 rfl rfl ?_
  refine rx_iload_n C 1 dX8_put_1 rfl rfl ?_
  refine rx_callVi C [.int x1] [] (m_X8_holds z.l C.inj r0 hr0 x1 σ) mv_X8_holds lk_X8_28 (ro_sh hr0) rfl rfl rfl (Nat.le_of_ble_eq_true rfl) ⟨Nat.le_of_ble_eq_true rfl, Nat.le_of_ble_eq_true rfl⟩ dX8_put_2 (fun q3 => ?_)
  refine rx_if_eq C (tgt := 34) dX8_put_5 (by decide) (fun _ => ?_) (fun _ => ?_)
  · exact RX.loc (w_X8_put_34 C r0 hr0 q3.2) [] rfl
  · refine rx_iload_n C 2 dX8_put_8 rfl rfl ?_
    refine rx_if_lt C (tgt := 34) dX8_put_9 (by decide) (fun _ => ?_) (fun _ => ?_)
    · exact RX.loc (w_X8_put_34 C r0 hr0 q3.2) [] rfl
    · refine rx_iload_n C 2 dX8_put_12 rfl rfl ?_
      refine rx_aload_n C 0 dX8_put_13 rfl rfl ?_
      refine rx_getI C (k := 1) (ro_sh hr0) fc_X8 (by decide) rfl lk_X8_15 dX8_put_14 ?_
      refine rx_icmp_ge C (tgt := 34) dX8_put_17 (by decide) (fun _ => ?_) (fun _ => ?_)
      · exact RX.loc (w_X8_put_34 C r0 hr0 q3.2) [] rfl
      · refine rx_aload_n C 0 dX8_put_20 rfl rfl ?_
        refine rx_getC C (k := 3) (ro_sh hr0) fc_X8 (by decide) (r0 + 2) rfl lk_X8_22 dX8_put_21 ?_
        refine rx_iload_n C 1 dX8_put_24 rfl rfl ?_
        refine rx_aload_n C 0 dX8_put_25 rfl rfl ?_
        refine rx_getI C (k := 1) (ro_sh hr0) fc_X8 (by decide) rfl lk_X8_15 dX8_put_26 ?_
        refine rx_imul C dX8_put_29 ?_
        refine rx_iload_n C 2 dX8_put_30 rfl rfl ?_
        refine rx_iadd C dX8_put_31 ?_
        refine rx_iload_n C 3 dX8_put_32 rfl rfl ?_
        refine rx_iast C (n := (lnX (r0 + 2))) (ro_2 hr0) dX8_put_33 (fun _ => ?_)
        refine rx_lts (fun σ4 => ?_)
        exact RX.loc (w_X8_put_34 C r0 hr0 σ4) [] rfl
theorem m_X8_put (l : Launch) {α : Nat → Nat} {D : va_G} {cA : Nat → ClassId} (hin : inj shX.length α) (r0 : Nat) (hr0 : isRoll r0) (x1 : Int32) (x2 : Int32) (x3 : Int32) (σ : St) : CT shX l yX8_put cX8_put 4 none 1 21 emV α D cA [.ref (α r0), .int x1, .int x2, .int x3] σ (f_X8_put r0 x1 x2 x3 σ) := ct_of rfl (Nat.le_of_ble_eq_true rfl) hin (fun z _ C => w_X8_put_e C r0 hr0 x1 x2 x3 σ)
set_option maxRecDepth 100000 in
set_option maxHeartbeats 4000000 in
theorem w_X1_lendTitle_34 {α : Nat → Nat} {D : va_G} {cA : Nat → ClassId} {z : Cz} (C : CX shX α D cA z RX1 cX1_lendTitle 6 (some .int) 5 122) (σ : St) : RX emI shX α D cA z 6 σ 34 [] [] (f_X1_lendTitle_34 σ) := by
  unfold f_X1_lendTitle_34
  refine rx_iconst C dX1_lendTitle_34 ic_m1 ?_
  exact rx_iret C dX1_lendTitle_35
set_option maxRecDepth 100000 in
set_option maxHeartbeats 4000000 in
theorem w_X1_lendTitle_e {α : Nat → Nat} {D : va_G} {cA : Nat → ClassId} {z : Cz} (C : CX shX α D cA z RX1 cX1_lendTitle 6 (some .int) 5 122) (x1 : Int32) (x2 : Int32) (x3 : Int32) (σ : St) : RX emI shX α D cA z 6 σ 0 [(0, .ref (α 18)), (1, .int x1), (2, .int x2), (3, .int x3)] [] (f_X1_lendTitle x1 x2 x3 σ) := by
  unfold f_X1_lendTitle
  refine rx_aload_n C 0 dX1_lendTitle_0 rfl rfl ?_
  refine rx_getC C (k := 3) sx_18 fc_X1 (by decide) 21 rfl lk_X1_31 dX1_lendTitle_1 ?_
  refine rx_callVi C [] [] (m_X8_isFull z.l C.inj 21 rn_21 σ) mv_X8_isFull lk_X1_111 sx_21 rfl rfl rfl (Nat.le_of_ble_eq_true rfl) ⟨Nat.le_of_ble_eq_true rfl, Nat.le_of_ble_eq_true rfl⟩ dX1_lendTitle_4 (fun q15 => ?_)
  refine rx_if_ne C (tgt := 34) dX1_lendTitle_7 (by decide) (fun _ => ?_) (fun _ => ?_)
  · refine rx_aload_n C 0 dX1_lendTitle_10 rfl rfl ?_
    refine rx_getC C (k := 0) sx_18 fc_X1 (by decide) 6 rfl lk_X1_9 dX1_lendTitle_11 ?_
    refine rx_iload_n C 1 dX1_lendTitle_14 rfl rfl ?_
    refine rx_iload_n C 3 dX1_lendTitle_15 rfl rfl ?_
    refine rx_callVi C [.int x1, .int x3] [] (m_X2_bears z.l C.inj x1 x3 q15.2) mv_X2_bears lk_X1_75 sx_6 rfl rfl rfl (Nat.le_of_ble_eq_true rfl) ⟨Nat.le_of_ble_eq_true rfl, Nat.le_of_ble_eq_true rfl⟩ dX1_lendTitle_16 (fun q16 => ?_)
    refine rx_if_eq C (tgt := 34) dX1_lendTitle_19 (by decide) (fun _ => ?_) (fun _ => ?_)
    · exact RX.loc (w_X1_lendTitle_34 C q16.2) [] rfl
    · refine rx_aload_n C 0 dX1_lendTitle_22 rfl rfl ?_
      refine rx_getC C (k := 0) sx_18 fc_X1 (by decide) 6 rfl lk_X1_9 dX1_lendTitle_23 ?_
      refine rx_iload_n C 2 dX1_lendTitle_26 rfl rfl ?_
      refine rx_iload_n C 3 dX1_lendTitle_27 rfl rfl ?_
      refine rx_callVi C [.int x2, .int x3] [] (m_X2_lacks z.l C.inj x2 x3 q16.2) mv_X2_lacks lk_X1_115 sx_6 rfl rfl rfl (Nat.le_of_ble_eq_true rfl) ⟨Nat.le_of_ble_eq_true rfl, Nat.le_of_ble_eq_true rfl⟩ dX1_lendTitle_28 (fun q17 => ?_)
      refine rx_if_ne C (tgt := 36) dX1_lendTitle_31 (by decide) (fun _ => ?_) (fun _ => ?_)
      · exact RX.loc (w_X1_lendTitle_34 C q17.2) [] rfl
      · refine rx_aload_n C 0 dX1_lendTitle_36 rfl rfl ?_
        refine rx_getC C (k := 0) sx_18 fc_X1 (by decide) 6 rfl lk_X1_9 dX1_lendTitle_37 ?_
        refine rx_getR C (k := 0) sx_6 fc_X2 (by decide) rfl lk_X1_85 dX1_lendTitle_40 ?_
        refine rx_ltr (fun g18 => ?_)
        refine rx_if (fun hg18 => ?_) (fun _ => rx_none)
        refine rx_iload_n C 3 dX1_lendTitle_43 rfl rfl ?_
        refine rx_callVi C [.int x3] [] (m_X4_titleOunces z.l C.inj g18 (landB_is hg18) x3 q17.2) mv_X4_titleOunces lk_X1_89 (ld_sh (landB_is hg18)) rfl rfl rfl (Nat.le_of_ble_eq_true rfl) ⟨Nat.le_of_ble_eq_true rfl, Nat.le_of_ble_eq_true rfl⟩ dX1_lendTitle_44 (fun q19 => ?_)
        refine rx_istore C [(4, .int q19.1), (0, .ref (α 18)), (1, .int x1), (2, .int x2), (3, .int x3)] dX1_lendTitle_47 (by decide) rfl ?_
        refine rx_aload_n C 1 dX1_lendTitle_49 rfl rfl ?_
        refine rx_getC C (k := 0) sx_18 fc_X1 (by decide) 6 rfl lk_X1_9 dX1_lendTitle_50 ?_
        refine rx_iload_n C 3 dX1_lendTitle_53 rfl rfl ?_
        refine rx_callVi C [.int x2] [] (m_X2_loadOf z.l C.inj x2 q19.2) mv_X2_loadOf lk_X1_71 sx_6 rfl rfl rfl (Nat.le_of_ble_eq_true rfl) ⟨Nat.le_of_ble_eq_true rfl, Nat.le_of_ble_eq_true rfl⟩ dX1_lendTitle_54 (fun q20 => ?_)
        refine rx_iload C 0 dX1_lendTitle_57 rfl ?_
        refine rx_iadd C dX1_lendTitle_59 ?_
        refine rx_aload_n C 1 dX1_lendTitle_60 rfl rfl ?_
        refine rx_getC C (k := 0) sx_18 fc_X1 (by decide) 6 rfl lk_X1_9 dX1_lendTitle_61 ?_
        refine rx_iload_n C 3 dX1_lendTitle_64 rfl rfl ?_
        refine rx_callVi C [.int x2] [.int (q20.1 + q19.1)] (m_X2_limitOf z.l C.inj x2 q20.2) mv_X2_limitOf lk_X1_118 sx_6 rfl rfl rfl (Nat.le_of_ble_eq_true rfl) ⟨Nat.le_of_ble_eq_true rfl, Nat.le_of_ble_eq_true rfl⟩ dX1_lendTitle_65 (fun q21 => ?_)
        refine rx_icmp_le C (tgt := 73) dX1_lendTitle_68 (by decide) (fun _ => ?_) (fun _ => ?_)
        · refine rx_aload_n C 1 dX1_lendTitle_73 rfl rfl ?_
          refine rx_getC C (k := 0) sx_18 fc_X1 (by decide) 6 rfl lk_X1_9 dX1_lendTitle_74 ?_
          refine rx_iload_n C 2 dX1_lendTitle_77 rfl rfl ?_
          refine rx_iload_n C 4 dX1_lendTitle_78 rfl rfl ?_
          refine rx_callVv C [.int x1, .int x3] [] (m_X2_go z.l C.inj x1 x3 q21.2) mv_X2_go lk_X1_79 sx_6 rfl rfl rfl (Nat.le_of_ble_eq_true rfl) ⟨Nat.le_of_ble_eq_true rfl, Nat.le_of_ble_eq_true rfl⟩ dX1_lendTitle_79 (fun q22 => ?_)
          refine rx_aload_n C 1 dX1_lendTitle_82 rfl rfl ?_
          refine rx_getC C (k := 0) sx_18 fc_X1 (by decide) 6 rfl lk_X1_9 dX1_lendTitle_83 ?_
          refine rx_iload_n C 3 dX1_lendTitle_86 rfl rfl ?_
          refine rx_iload_n C 4 dX1_lendTitle_87 rfl rfl ?_
          refine rx_callVv C [.int x2, .int x3] [] (m_X2_come z.l C.inj x2 x3 q22.2) mv_X2_come lk_X1_64 sx_6 rfl rfl rfl (Nat.le_of_ble_eq_true rfl) ⟨Nat.le_of_ble_eq_true rfl, Nat.le_of_ble_eq_true rfl⟩ dX1_lendTitle_88 (fun q23 => ?_)
          refine rx_aload_n C 1 dX1_lendTitle_91 rfl rfl ?_
          refine rx_getC C (k := 3) sx_18 fc_X1 (by decide) 21 rfl lk_X1_31 dX1_lendTitle_92 ?_
          refine rx_iconst C dX1_lendTitle_95 ic_0 ?_
          refine rx_callVi C [.int (0 : Int32)] [] (m_X8_add z.l C.inj 21 rn_21 (0 : Int32) q23.2) mv_X8_add lk_X1_121 sx_21 rfl rfl rfl (Nat.le_of_ble_eq_true rfl) ⟨Nat.le_of_ble_eq_true rfl, Nat.le_of_ble_eq_true rfl⟩ dX1_lendTitle_96 (fun q24 => ?_)
          refine rx_istore C [(5, .int q24.1), (4, .int q19.1), (0, .ref (α 18)), (1, .int x1), (2, .int x2), (3, .int x3)] dX1_lendTitle_99 (by decide) rfl ?_
          refine rx_aload_n C 2 dX1_lendTitle_101 rfl rfl ?_
          refine rx_getC C (k := 3) sx_18 fc_X1 (by decide) 21 rfl lk_X1_31 dX1_lendTitle_102 ?_
          refine rx_iload C 0 dX1_lendTitle_105 rfl ?_
          refine rx_iconst C dX1_lendTitle_107 ic_0 ?_
          refine rx_iload_n C 3 dX1_lendTitle_108 rfl rfl ?_
          refine rx_callVv C [.int q24.1, .int (0 : Int32), .int x1] [] (m_X8_put z.l C.inj 21 rn_21 q24.1 (0 : Int32) x1 q24.2) mv_X8_put lk_X1_124 sx_21 rfl rfl rfl (Nat.le_of_ble_eq_true rfl) ⟨Nat.le_of_ble_eq_true rfl, Nat.le_of_ble_eq_true rfl⟩ dX1_lendTitle_109 (fun q25 => ?_)
          refine rx_aload_n C 2 dX1_lendTitle_112 rfl rfl ?_
          refine rx_getC C (k := 3) sx_18 fc_X1 (by decide) 21 rfl lk_X1_31 dX1_lendTitle_113 ?_
          refine rx_iload C 0 dX1_lendTitle_116 rfl ?_
          refine rx_iconst C dX1_lendTitle_118 ic_1 ?_
          refine rx_iload_n C 4 dX1_lendTitle_119 rfl rfl ?_
          refine rx_callVv C [.int q24.1, .int (1 : Int32), .int x2] [] (m_X8_put z.l C.inj 21 rn_21 q24.1 (1 : Int32) x2 q25.2) mv_X8_put lk_X1_124 sx_21 rfl rfl rfl (Nat.le_of_ble_eq_true rfl) ⟨Nat.le_of_ble_eq_true rfl, Nat.le_of_ble_eq_true rfl⟩ dX1_lendTitle_120 (fun q26 => ?_)
          refine rx_aload_n C 2 dX1_lendTitle_123 rfl rfl ?_
          refine rx_getC C (k := 3) sx_18 fc_X1 (by decide) 21 rfl lk_X1_31 dX1_lendTitle_124 ?_
          refine rx_iload C 0 dX1_lendTitle_127 rfl ?_
          refine rx_iconst C dX1_lendTitle_129 ic_2 ?_
          refine rx_iload_n C 5 dX1_lendTitle_130 rfl rfl ?_
          refine rx_callVv C [.int q24.1, .int (2 : Int32), .int x3] [] (m_X8_put z.l C.inj 21 rn_21 q24.1 (2 : Int32) x3 q26.2) mv_X8_put lk_X1_124 sx_21 rfl rfl rfl (Nat.le_of_ble_eq_true rfl) ⟨Nat.le_of_ble_eq_true rfl, Nat.le_of_ble_eq_true rfl⟩ dX1_lendTitle_131 (fun q27 => ?_)
          refine rx_aload_n C 2 dX1_lendTitle_134 rfl rfl ?_
          refine rx_iconst C dX1_lendTitle_135 ic_4 ?_
          refine rx_iload_n C 3 dX1_lendTitle_136 rfl rfl ?_
          refine rx_iload_n C 4 dX1_lendTitle_137 rfl rfl ?_
          refine rx_iload C 1 dX1_lendTitle_138 rfl ?_
          refine rx_callVv C [.int (4 : Int32), .int x1, .int x2, .int q19.1] [] (m_X1_note z.l C.inj (4 : Int32) x1 x2 q19.1 q27.2) mv_X1_note lk_X1_67 sx_18 rfl rfl rfl (Nat.le_of_ble_eq_true rfl) ⟨Nat.le_of_ble_eq_true rfl, Nat.le_of_ble_eq_true rfl⟩ dX1_lendTitle_140 (fun q28 => ?_)
          refine rx_aload_n C 2 dX1_lendTitle_143 rfl rfl ?_
          refine rx_getC C (k := 3) sx_18 fc_X1 (by decide) 21 rfl lk_X1_31 dX1_lendTitle_144 ?_
          refine rx_getI C (k := 4) sx_21 fc_X8 (by decide) rfl lk_X1_42 dX1_lendTitle_147 ?_
          exact rx_iret C dX1_lendTitle_150
        · refine rx_iconst C dX1_lendTitle_71 ic_m1 ?_
          exact rx_iret C dX1_lendTitle_72
  · exact RX.loc (w_X1_lendTitle_34 C q15.2) [] rfl
theorem m_X1_lendTitle (l : Launch) {α : Nat → Nat} {D : va_G} {cA : Nat → ClassId} (hin : inj shX.length α) (x1 : Int32) (x2 : Int32) (x3 : Int32) (σ : St) : CT shX l yX1_lendTitle cX1_lendTitle 6 (some .int) 5 122 emI α D cA [.ref (α 18), .int x1, .int x2, .int x3] σ (f_X1_lendTitle x1 x2 x3 σ) := ct_of rfl (Nat.le_of_ble_eq_true rfl) hin (fun z _ C => w_X1_lendTitle_e C x1 x2 x3 σ)
set_option maxRecDepth 100000 in
set_option maxHeartbeats 4000000 in
theorem w_X1_canUndo_55 {α : Nat → Nat} {D : va_G} {cA : Nat → ClassId} {z : Cz} (C : CX shX α D cA z RX1 cX1_canUndo 3 (some .boolean) 3 65) (s0 : Int32) (σ : St) : RX emI shX α D cA z 3 σ 55 [] [.int s0] (f_X1_canUndo_55 s0 σ) := by
  unfold f_X1_canUndo_55
  exact rx_zret C dX1_canUndo_55
set_option maxRecDepth 100000 in
set_option maxHeartbeats 4000000 in
theorem w_X1_canUndo_54 {α : Nat → Nat} {D : va_G} {cA : Nat → ClassId} {z : Cz} (C : CX shX α D cA z RX1 cX1_canUndo 3 (some .boolean) 3 65) (σ : St) : RX emI shX α D cA z 3 σ 54 [] [] (f_X1_canUndo_54 σ) := by
  unfold f_X1_canUndo_54
  refine rx_iconst C dX1_canUndo_54 ic_0 ?_
  exact RX.loc (w_X1_canUndo_55 C (0 : Int32) σ) [] rfl
set_option maxRecDepth 100000 in
set_option maxHeartbeats 4000000 in
theorem w_X1_canUndo_e {α : Nat → Nat} {D : va_G} {cA : Nat → ClassId} {z : Cz} (C : CX shX α D cA z RX1 cX1_canUndo 3 (some .boolean) 3 65) (x1 : Int32) (σ : St) : RX emI shX α D cA z 3 σ 0 [(0, .ref (α 18)), (1, .int x1)] [] (f_X1_canUndo x1 σ) := by
  unfold f_X1_canUndo
  refine rx_aload_n C 0 dX1_canUndo_0 rfl rfl ?_
  refine rx_getC C (k := 3) sx_18 fc_X1 (by decide) 21 rfl lk_X1_31 dX1_canUndo_1 ?_
  refine rx_iload_n C 1 dX1_canUndo_4 rfl rfl ?_
  refine rx_iconst C dX1_canUndo_5 ic_2 ?_
  refine rx_callVi C [.int x1, .int (2 : Int32)] [] (m_X8_get z.l C.inj 21 rn_21 x1 (2 : Int32) σ) mv_X8_get lk_X1_127 sx_21 rfl rfl rfl (Nat.le_of_ble_eq_true rfl) ⟨Nat.le_of_ble_eq_true rfl, Nat.le_of_ble_eq_true rfl⟩ dX1_canUndo_6 (fun q6 => ?_)
  refine rx_istore_n C [(2, .int q6.1), (0, .ref (α 18)), (1, .int x1)] dX1_canUndo_9 rfl (by decide) rfl ?_
  refine rx_aload_n C 1 dX1_canUndo_10 rfl rfl ?_
  refine rx_getC C (k := 0) sx_18 fc_X1 (by decide) 6 rfl lk_X1_9 dX1_canUndo_11 ?_
  refine rx_aload_n C 1 dX1_canUndo_14 rfl rfl ?_
  refine rx_getC C (k := 3) sx_18 fc_X1 (by decide) 21 rfl lk_X1_31 dX1_canUndo_15 ?_
  refine rx_iload_n C 2 dX1_canUndo_18 rfl rfl ?_
  refine rx_iconst C dX1_canUndo_19 ic_1 ?_
  refine rx_callVi C [.int x1, .int (1 : Int32)] [.ref (α 6)] (m_X8_get z.l C.inj 21 rn_21 x1 (1 : Int32) q6.2) mv_X8_get lk_X1_127 sx_21 rfl rfl rfl (Nat.le_of_ble_eq_true rfl) ⟨Nat.le_of_ble_eq_true rfl, Nat.le_of_ble_eq_true rfl⟩ dX1_canUndo_20 (fun q7 => ?_)
  refine rx_iload_n C 0 dX1_canUndo_23 rfl rfl ?_
  refine rx_callVi C [.int q7.1, .int q6.1] [] (m_X2_bears z.l C.inj q7.1 q6.1 q7.2) mv_X2_bears lk_X1_75 sx_6 rfl rfl rfl (Nat.le_of_ble_eq_true rfl) ⟨Nat.le_of_ble_eq_true rfl, Nat.le_of_ble_eq_true rfl⟩ dX1_canUndo_24 (fun q8 => ?_)
  refine rx_if_eq C (tgt := 54) dX1_canUndo_27 (by decide) (fun _ => ?_) (fun _ => ?_)
  · exact RX.loc (w_X1_canUndo_54 C q8.2) [] rfl
  · refine rx_aload_n C 1 dX1_canUndo_30 rfl rfl ?_
    refine rx_getC C (k := 0) sx_18 fc_X1 (by decide) 6 rfl lk_X1_9 dX1_canUndo_31 ?_
    refine rx_aload_n C 1 dX1_canUndo_34 rfl rfl ?_
    refine rx_getC C (k := 3) sx_18 fc_X1 (by decide) 21 rfl lk_X1_31 dX1_canUndo_35 ?_
    refine rx_iload_n C 2 dX1_canUndo_38 rfl rfl ?_
    refine rx_iconst C dX1_canUndo_39 ic_0 ?_
    refine rx_callVi C [.int x1, .int (0 : Int32)] [.ref (α 6)] (m_X8_get z.l C.inj 21 rn_21 x1 (0 : Int32) q8.2) mv_X8_get lk_X1_127 sx_21 rfl rfl rfl (Nat.le_of_ble_eq_true rfl) ⟨Nat.le_of_ble_eq_true rfl, Nat.le_of_ble_eq_true rfl⟩ dX1_canUndo_40 (fun q9 => ?_)
    refine rx_iload_n C 0 dX1_canUndo_43 rfl rfl ?_
    refine rx_callVi C [.int q9.1, .int q6.1] [] (m_X2_lacks z.l C.inj q9.1 q6.1 q9.2) mv_X2_lacks lk_X1_115 sx_6 rfl rfl rfl (Nat.le_of_ble_eq_true rfl) ⟨Nat.le_of_ble_eq_true rfl, Nat.le_of_ble_eq_true rfl⟩ dX1_canUndo_44 (fun q10 => ?_)
    refine rx_if_eq C (tgt := 54) dX1_canUndo_47 (by decide) (fun _ => ?_) (fun _ => ?_)
    · exact RX.loc (w_X1_canUndo_54 C q10.2) [] rfl
    · refine rx_iconst C dX1_canUndo_50 ic_1 ?_
      refine rx_goto C (tgt := 55) dX1_canUndo_51 (by decide) ?_
      exact RX.loc (w_X1_canUndo_55 C (1 : Int32) q10.2) [] rfl
theorem m_X1_canUndo (l : Launch) {α : Nat → Nat} {D : va_G} {cA : Nat → ClassId} (hin : inj shX.length α) (x1 : Int32) (σ : St) : CT shX l yX1_canUndo cX1_canUndo 3 (some .boolean) 3 65 emI α D cA [.ref (α 18), .int x1] σ (f_X1_canUndo x1 σ) := ct_of rfl (Nat.le_of_ble_eq_true rfl) hin (fun z _ C => w_X1_canUndo_e C x1 σ)
set_option maxRecDepth 100000 in
set_option maxHeartbeats 4000000 in
theorem w_X8_remove_37 {α : Nat → Nat} {D : va_G} {cA : Nat → ClassId} {z : Cz} (C : CX shX α D cA z RX8 cX8_remove 4 none 1 21) (r0 : Nat) (hr0 : isRoll r0) (k_11 : Int32 → St → Option (Unit × St)) (hk_11 : ∀ (x2 : Int32) (σ : St), RX emV shX α D cA z 4 σ 11 [(0, .ref (α r0)), (2, .int x2)] [] (k_11 x2 σ)) : ∀ (n : Nat) (x2 : Int32) (x3 : Int32) (σ : St), RX emV shX α D cA z 4 σ 37 [(0, .ref (α r0)), (2, .int x2), (3, .int x3)] [] (f_X8_remove_37 r0 k_11 n x2 x3 σ) := by
  intro n
  induction n with
  | zero => intros; exact rx_none
  | succ n hk_37 =>
    intro x2 x3 σ
    rw [f_X8_remove_37.eq_2]
    refine rx_iload_n C 2 dX8_remove_37 rfl rfl ?_
    refine rx_aload_n C 0 dX8_remove_38 rfl rfl ?_
    refine rx_getI C (k := 1) (ro_sh hr0) fc_X8 (by decide) rfl lk_X8_15 dX8_remove_39 ?_
    refine rx_icmp_ge C (tgt := 79) dX8_remove_42 (by decide) (fun _ => ?_) (fun _ => ?_)
    · refine rx_iinc C (k0 := 1) (v := x2 + (1 : Int32)) [(2, .int (x2 + (1 : Int32))), (0, .ref (α r0)), (3, .int x3)] dX8_remove_79 rfl (congrArg _ ic_1) (by decide) rfl ?_
      refine rx_goto C (tgt := 11) dX8_remove_82 (by decide) ?_
      exact RX.loc (hk_11 (x2 + (1 : Int32)) σ) [1, 0] rfl
    · refine rx_aload_n C 0 dX8_remove_45 rfl rfl ?_
      refine rx_getC C (k := 3) (ro_sh hr0) fc_X8 (by decide) (r0 + 2) rfl lk_X8_22 dX8_remove_46 ?_
      refine rx_iload_n C 1 dX8_remove_49 rfl rfl ?_
      refine rx_aload_n C 0 dX8_remove_50 rfl rfl ?_
      refine rx_getI C (k := 1) (ro_sh hr0) fc_X8 (by decide) rfl lk_X8_15 dX8_remove_51 ?_
      refine rx_imul C dX8_remove_54 ?_
      refine rx_iload_n C 2 dX8_remove_55 rfl rfl ?_
      refine rx_iadd C dX8_remove_56 ?_
      refine rx_aload_n C 0 dX8_remove_57 rfl rfl ?_
      refine rx_getC C (k := 3) (ro_sh hr0) fc_X8 (by decide) (r0 + 2) rfl lk_X8_22 dX8_remove_58 ?_
      refine rx_iload_n C 1 dX8_remove_61 rfl rfl ?_
      refine rx_iconst C dX8_remove_62 ic_1 ?_
      refine rx_iadd C dX8_remove_63 ?_
      refine rx_aload_n C 0 dX8_remove_64 rfl rfl ?_
      refine rx_getI C (k := 1) (ro_sh hr0) fc_X8 (by decide) rfl lk_X8_15 dX8_remove_65 ?_
      refine rx_imul C dX8_remove_68 ?_
      refine rx_iload_n C 2 dX8_remove_69 rfl rfl ?_
      refine rx_iadd C dX8_remove_70 ?_
      refine rx_iald C (n := (lnX (r0 + 2))) (ro_2 hr0) dX8_remove_71 (fun _ => ?_)
      refine rx_iast C (n := (lnX (r0 + 2))) (ro_2 hr0) dX8_remove_72 (fun _ => ?_)
      refine rx_lts (fun σ8 => ?_)
      refine rx_iinc C (k0 := 2) (v := x3 + (1 : Int32)) [(3, .int (x3 + (1 : Int32))), (0, .ref (α r0)), (2, .int x2)] dX8_remove_73 rfl (congrArg _ ic_1) (by decide) rfl ?_
      refine rx_goto C (tgt := 37) dX8_remove_76 (by decide) ?_
      exact RX.loc (hk_37 x2 (x3 + (1 : Int32)) σ8) [1, 2, 0] rfl
set_option maxRecDepth 100000 in
set_option maxHeartbeats 4000000 in
theorem w_X8_remove_11 {α : Nat → Nat} {D : va_G} {cA : Nat → ClassId} {z : Cz} (C : CX shX α D cA z RX8 cX8_remove 4 none 1 21) (r0 : Nat) (hr0 : isRoll r0) : ∀ (n : Nat) (x2 : Int32) (σ : St), RX emV shX α D cA z 4 σ 11 [(0, .ref (α r0)), (2, .int x2)] [] (f_X8_remove_11 r0 n x2 σ) := by
  intro n
  induction n with
  | zero => intros; exact rx_none
  | succ n hk_11 =>
    intro x2 σ
    rw [f_X8_remove_11.eq_2]
    refine rx_iload_n C 1 dX8_remove_11 rfl rfl ?_
    refine rx_iconst C dX8_remove_12 ic_1 ?_
    refine rx_iadd C dX8_remove_13 ?_
    refine rx_aload_n C 0 dX8_remove_14 rfl rfl ?_
    refine rx_getI C (k := 4) (ro_sh hr0) fc_X8 (by decide) rfl lk_X8_25 dX8_remove_15 ?_
    refine rx_icmp_ge C (tgt := 85) dX8_remove_18 (by decide) (fun _ => ?_) (fun _ => ?_)
    · refine rx_aload_n C 0 dX8_remove_85 rfl rfl ?_
      refine rx_dup C dX8_remove_86 rfl ?_
      refine rx_getI C (k := 4) (ro_sh hr0) fc_X8 (by decide) rfl lk_X8_25 dX8_remove_87 ?_
      refine rx_iconst C dX8_remove_90 ic_1 ?_
      refine rx_isub C dX8_remove_91 ?_
      refine rx_putI C (k := 4) (ro_sh hr0) fc_X8 (by decide) rfl lk_X8_25 rfl ⟨rfl, rfl⟩ dX8_remove_92 ?_
      refine rx_lts (fun σ6 => ?_)
      exact rx_vret C dX8_remove_95
    · refine rx_aload_n C 0 dX8_remove_21 rfl rfl ?_
      refine rx_getC C (k := 2) (ro_sh hr0) fc_X8 (by decide) (r0 + 1) rfl lk_X8_18 dX8_remove_22 ?_
      refine rx_iload_n C 1 dX8_remove_25 rfl rfl ?_
      refine rx_aload_n C 0 dX8_remove_26 rfl rfl ?_
      refine rx_getC C (k := 2) (ro_sh hr0) fc_X8 (by decide) (r0 + 1) rfl lk_X8_18 dX8_remove_27 ?_
      refine rx_iload_n C 1 dX8_remove_30 rfl rfl ?_
      refine rx_iconst C dX8_remove_31 ic_1 ?_
      refine rx_iadd C dX8_remove_32 ?_
      refine rx_iald C (n := (lnX (r0 + 1))) (ro_1 hr0) dX8_remove_33 (fun _ => ?_)
      refine rx_iast C (n := (lnX (r0 + 1))) (ro_1 hr0) dX8_remove_34 (fun _ => ?_)
      refine rx_lts (fun σ7 => ?_)
      refine rx_iconst C dX8_remove_35 ic_0 ?_
      refine rx_istore_n C [(3, .int (0 : Int32)), (0, .ref (α r0)), (2, .int x2)] dX8_remove_36 rfl (by decide) rfl ?_
      exact RX.loc (w_X8_remove_37 C r0 hr0 (f_X8_remove_11 r0 n) hk_11 FU x2 (0 : Int32) σ7) [1, 2, 0] rfl
set_option maxRecDepth 100000 in
set_option maxHeartbeats 4000000 in
theorem w_X8_remove_e {α : Nat → Nat} {D : va_G} {cA : Nat → ClassId} {z : Cz} (C : CX shX α D cA z RX8 cX8_remove 4 none 1 21) (r0 : Nat) (hr0 : isRoll r0) (x1 : Int32) (σ : St) : RX emV shX α D cA z 4 σ 0 [(0, .ref (α r0)), (1, .int x1)] [] (f_X8_remove r0 x1 σ) := by
  unfold f_X8_remove
  refine rx_aload_n C 0 dX8_remove_0 rfl rfl ?_
  refine rx_iload_n C 1 dX8_remove_1 rfl rfl ?_
  refine rx_callVi C [.int x1] [] (m_X8_holds z.l C.inj r0 hr0 x1 σ) mv_X8_holds lk_X8_28 (ro_sh hr0) rfl rfl rfl (Nat.le_of_ble_eq_true rfl) ⟨Nat.le_of_ble_eq_true rfl, Nat.le_of_ble_eq_true rfl⟩ dX8_remove_2 (fun q5 => ?_)
  refine rx_if_ne C (tgt := 9) dX8_remove_5 (by decide) (fun _ => ?_) (fun _ => ?_)
  · exact rx_vret C dX8_remove_8
  · refine rx_iload_n C 1 dX8_remove_9 rfl rfl ?_
    refine rx_istore_n C [(2, .int x1), (0, .ref (α r0)), (1, .int x1)] dX8_remove_10 rfl (by decide) rfl ?_
    exact RX.loc (w_X8_remove_11 C r0 hr0 FU x1 q5.2) [1, 0] rfl
theorem m_X8_remove (l : Launch) {α : Nat → Nat} {D : va_G} {cA : Nat → ClassId} (hin : inj shX.length α) (r0 : Nat) (hr0 : isRoll r0) (x1 : Int32) (σ : St) : CT shX l yX8_remove cX8_remove 4 none 1 21 emV α D cA [.ref (α r0), .int x1] σ (f_X8_remove r0 x1 σ) := ct_of rfl (Nat.le_of_ble_eq_true rfl) hin (fun z _ C => w_X8_remove_e C r0 hr0 x1 σ)
set_option maxRecDepth 100000 in
set_option maxHeartbeats 4000000 in
theorem w_X1_undoLoan_e {α : Nat → Nat} {D : va_G} {cA : Nat → ClassId} {z : Cz} (C : CX shX α D cA z RX1 cX1_undoLoan 5 (some .boolean) 4 87) (x1 : Int32) (σ : St) : RX emI shX α D cA z 5 σ 0 [(0, .ref (α 18)), (1, .int x1)] [] (f_X1_undoLoan x1 σ) := by
  unfold f_X1_undoLoan
  refine rx_aload_n C 0 dX1_undoLoan_0 rfl rfl ?_
  refine rx_iload_n C 1 dX1_undoLoan_1 rfl rfl ?_
  refine rx_callVi C [.int x1] [] (m_X1_canUndo z.l C.inj x1 σ) mv_X1_canUndo lk_X1_130 sx_18 rfl rfl rfl (Nat.le_of_ble_eq_true rfl) ⟨Nat.le_of_ble_eq_true rfl, Nat.le_of_ble_eq_true rfl⟩ dX1_undoLoan_2 (fun q11 => ?_)
  refine rx_if_ne C (tgt := 10) dX1_undoLoan_5 (by decide) (fun _ => ?_) (fun _ => ?_)
  · refine rx_iconst C dX1_undoLoan_8 ic_0 ?_
    exact rx_zretC C dX1_undoLoan_9 rfl
  · refine rx_aload_n C 0 dX1_undoLoan_10 rfl rfl ?_
    refine rx_getC C (k := 3) sx_18 fc_X1 (by decide) 21 rfl lk_X1_31 dX1_undoLoan_11 ?_
    refine rx_iload_n C 1 dX1_undoLoan_14 rfl rfl ?_
    refine rx_iconst C dX1_undoLoan_15 ic_0 ?_
    refine rx_callVi C [.int x1, .int (0 : Int32)] [] (m_X8_get z.l C.inj 21 rn_21 x1 (0 : Int32) q11.2) mv_X8_get lk_X1_127 sx_21 rfl rfl rfl (Nat.le_of_ble_eq_true rfl) ⟨Nat.le_of_ble_eq_true rfl, Nat.le_of_ble_eq_true rfl⟩ dX1_undoLoan_16 (fun q12 => ?_)
    refine rx_istore_n C [(2, .int q12.1), (0, .ref (α 18)), (1, .int x1)] dX1_undoLoan_19 rfl (by decide) rfl ?_
    refine rx_aload_n C 1 dX1_undoLoan_20 rfl rfl ?_
    refine rx_getC C (k := 3) sx_18 fc_X1 (by decide) 21 rfl lk_X1_31 dX1_undoLoan_21 ?_
    refine rx_iload_n C 2 dX1_undoLoan_24 rfl rfl ?_
    refine rx_iconst C dX1_undoLoan_25 ic_1 ?_
    refine rx_callVi C [.int x1, .int (1 : Int32)] [] (m_X8_get z.l C.inj 21 rn_21 x1 (1 : Int32) q12.2) mv_X8_get lk_X1_127 sx_21 rfl rfl rfl (Nat.le_of_ble_eq_true rfl) ⟨Nat.le_of_ble_eq_true rfl, Nat.le_of_ble_eq_true rfl⟩ dX1_undoLoan_26 (fun q13 => ?_)
    refine rx_istore_n C [(3, .int q13.1), (2, .int q12.1), (0, .ref (α 18)), (1, .int x1)] dX1_undoLoan_29 rfl (by decide) rfl ?_
    refine rx_aload_n C 2 dX1_undoLoan_30 rfl rfl ?_
    refine rx_getC C (k := 3) sx_18 fc_X1 (by decide) 21 rfl lk_X1_31 dX1_undoLoan_31 ?_
    refine rx_iload_n C 3 dX1_undoLoan_34 rfl rfl ?_
    refine rx_iconst C dX1_undoLoan_35 ic_2 ?_
    refine rx_callVi C [.int x1, .int (2 : Int32)] [] (m_X8_get z.l C.inj 21 rn_21 x1 (2 : Int32) q13.2) mv_X8_get lk_X1_127 sx_21 rfl rfl rfl (Nat.le_of_ble_eq_true rfl) ⟨Nat.le_of_ble_eq_true rfl, Nat.le_of_ble_eq_true rfl⟩ dX1_undoLoan_36 (fun q14 => ?_)
    refine rx_istore C [(4, .int q14.1), (3, .int q13.1), (2, .int q12.1), (0, .ref (α 18)), (1, .int x1)] dX1_undoLoan_39 (by decide) rfl ?_
    refine rx_aload_n C 3 dX1_undoLoan_41 rfl rfl ?_
    refine rx_getC C (k := 0) sx_18 fc_X1 (by decide) 6 rfl lk_X1_9 dX1_undoLoan_42 ?_
    refine rx_iload_n C 1 dX1_undoLoan_45 rfl rfl ?_
    refine rx_iload C 0 dX1_undoLoan_46 rfl ?_
    refine rx_callVv C [.int q13.1, .int q14.1] [] (m_X2_go z.l C.inj q13.1 q14.1 q14.2) mv_X2_go lk_X1_79 sx_6 rfl rfl rfl (Nat.le_of_ble_eq_true rfl) ⟨Nat.le_of_ble_eq_true rfl, Nat.le_of_ble_eq_true rfl⟩ dX1_undoLoan_48 (fun q15 => ?_)
    refine rx_aload_n C 3 dX1_undoLoan_51 rfl rfl ?_
    refine rx_getC C (k := 0) sx_18 fc_X1 (by decide) 6 rfl lk_X1_9 dX1_undoLoan_52 ?_
    refine rx_iload_n C 2 dX1_undoLoan_55 rfl rfl ?_
    refine rx_iload C 0 dX1_undoLoan_56 rfl ?_
    refine rx_callVv C [.int q12.1, .int q14.1] [] (m_X2_come z.l C.inj q12.1 q14.1 q15.2) mv_X2_come lk_X1_64 sx_6 rfl rfl rfl (Nat.le_of_ble_eq_true rfl) ⟨Nat.le_of_ble_eq_true rfl, Nat.le_of_ble_eq_true rfl⟩ dX1_undoLoan_58 (fun q16 => ?_)
    refine rx_aload_n C 3 dX1_undoLoan_61 rfl rfl ?_
    refine rx_getC C (k := 3) sx_18 fc_X1 (by decide) 21 rfl lk_X1_31 dX1_undoLoan_62 ?_
    refine rx_iload_n C 4 dX1_undoLoan_65 rfl rfl ?_
    refine rx_callVv C [.int x1] [] (m_X8_remove z.l C.inj 21 rn_21 x1 q16.2) mv_X8_remove lk_X1_133 sx_21 rfl rfl rfl (Nat.le_of_ble_eq_true rfl) ⟨Nat.le_of_ble_eq_true rfl, Nat.le_of_ble_eq_true rfl⟩ dX1_undoLoan_66 (fun q17 => ?_)
    refine rx_aload_n C 3 dX1_undoLoan_69 rfl rfl ?_
    refine rx_iconst C dX1_undoLoan_70 ic_5 ?_
    refine rx_iload_n C 1 dX1_undoLoan_71 rfl rfl ?_
    refine rx_iload_n C 2 dX1_undoLoan_72 rfl rfl ?_
    refine rx_aload_n C 3 dX1_undoLoan_73 rfl rfl ?_
    refine rx_getC C (k := 0) sx_18 fc_X1 (by decide) 6 rfl lk_X1_9 dX1_undoLoan_74 ?_
    refine rx_getR C (k := 0) sx_6 fc_X2 (by decide) rfl lk_X1_85 dX1_undoLoan_77 ?_
    refine rx_ltr (fun g18 => ?_)
    refine rx_if (fun hg18 => ?_) (fun _ => rx_none)
    refine rx_iload C 0 dX1_undoLoan_80 rfl ?_
    refine rx_callVi C [.int q14.1] [.int q12.1, .int q13.1, .int (5 : Int32), .ref (α 18)] (m_X4_titleOunces z.l C.inj g18 (landB_is hg18) q14.1 q17.2) mv_X4_titleOunces lk_X1_89 (ld_sh (landB_is hg18)) rfl rfl rfl (Nat.le_of_ble_eq_true rfl) ⟨Nat.le_of_ble_eq_true rfl, Nat.le_of_ble_eq_true rfl⟩ dX1_undoLoan_82 (fun q19 => ?_)
    refine rx_callVv C [.int (5 : Int32), .int q13.1, .int q12.1, .int q19.1] [] (m_X1_note z.l C.inj (5 : Int32) q13.1 q12.1 q19.1 q19.2) mv_X1_note lk_X1_67 sx_18 rfl rfl rfl (Nat.le_of_ble_eq_true rfl) ⟨Nat.le_of_ble_eq_true rfl, Nat.le_of_ble_eq_true rfl⟩ dX1_undoLoan_85 (fun q20 => ?_)
    refine rx_iconst C dX1_undoLoan_88 ic_1 ?_
    exact rx_zretC C dX1_undoLoan_89 rfl
theorem m_X1_undoLoan (l : Launch) {α : Nat → Nat} {D : va_G} {cA : Nat → ClassId} (hin : inj shX.length α) (x1 : Int32) (σ : St) : CT shX l yX1_undoLoan cX1_undoLoan 5 (some .boolean) 4 87 emI α D cA [.ref (α 18), .int x1] σ (f_X1_undoLoan x1 σ) := ct_of rfl (Nat.le_of_ble_eq_true rfl) hin (fun z _ C => w_X1_undoLoan_e C x1 σ)
set_option maxRecDepth 100000 in
set_option maxHeartbeats 4000000 in
theorem w_X1_sinkCoat_58 {α : Nat → Nat} {D : va_G} {cA : Nat → ClassId} {z : Cz} (C : CX shX α D cA z RX1 cX1_sinkCoat 4 (some .int) 3 68) : ∀ (n : Nat) (x1 : Int32) (x2 : Int32) (x3 : Int32) (σ : St), RX emI shX α D cA z 4 σ 58 [(0, .ref (α 18)), (1, .int x1), (2, .int x2), (3, .int x3)] [] (f_X1_sinkCoat_58 n x1 x2 x3 σ) := by
  intro n
  induction n with
  | zero => intros; exact rx_none
  | succ n hk_58 =>
    intro x1 x2 x3 σ
    rw [f_X1_sinkCoat_58.eq_2]
    refine rx_iload_n C 3 dX1_sinkCoat_58 rfl rfl ?_
    refine rx_bipush C dX1_sinkCoat_59 bp_26 ?_
    refine rx_icmp_ge C (tgt := 89) dX1_sinkCoat_61 (by decide) (fun _ => ?_) (fun _ => ?_)
    · refine rx_aload_n C 0 dX1_sinkCoat_89 rfl rfl ?_
      refine rx_getC C (k := 0) sx_18 fc_X1 (by decide) 6 rfl lk_X1_9 dX1_sinkCoat_90 ?_
      refine rx_dup C dX1_sinkCoat_93 rfl ?_
      refine rx_getI C (k := 2) sx_6 fc_X2 (by decide) rfl lk_X1_140 dX1_sinkCoat_94 ?_
      refine rx_iload_n C 2 dX1_sinkCoat_97 rfl rfl ?_
      refine rx_iadd C dX1_sinkCoat_98 ?_
      refine rx_putI C (k := 2) sx_6 fc_X2 (by decide) rfl lk_X1_140 rfl ⟨rfl, rfl⟩ dX1_sinkCoat_99 ?_
      refine rx_lts (fun σ12 => ?_)
      refine rx_aload_n C 0 dX1_sinkCoat_102 rfl rfl ?_
      refine rx_bipush C dX1_sinkCoat_103 bp_6 ?_
      refine rx_iload_n C 1 dX1_sinkCoat_105 rfl rfl ?_
      refine rx_iconst C dX1_sinkCoat_106 ic_m1 ?_
      refine rx_iload_n C 2 dX1_sinkCoat_107 rfl rfl ?_
      refine rx_callVv C [.int (6 : Int32), .int x1, .int (-1 : Int32), .int x2] [] (m_X1_note z.l C.inj (6 : Int32) x1 (-1 : Int32) x2 σ12) mv_X1_note lk_X1_67 sx_18 rfl rfl rfl (Nat.le_of_ble_eq_true rfl) ⟨Nat.le_of_ble_eq_true rfl, Nat.le_of_ble_eq_true rfl⟩ dX1_sinkCoat_108 (fun q13 => ?_)
      refine rx_iload_n C 2 dX1_sinkCoat_111 rfl rfl ?_
      exact rx_iret C dX1_sinkCoat_112
    · refine rx_aload_n C 0 dX1_sinkCoat_64 rfl rfl ?_
      refine rx_getC C (k := 0) sx_18 fc_X1 (by decide) 6 rfl lk_X1_9 dX1_sinkCoat_65 ?_
      refine rx_iload_n C 1 dX1_sinkCoat_68 rfl rfl ?_
      refine rx_iload_n C 3 dX1_sinkCoat_69 rfl rfl ?_
      refine rx_aload_n C 0 dX1_sinkCoat_70 rfl rfl ?_
      refine rx_getC C (k := 0) sx_18 fc_X1 (by decide) 6 rfl lk_X1_9 dX1_sinkCoat_71 ?_
      refine rx_iload_n C 1 dX1_sinkCoat_74 rfl rfl ?_
      refine rx_iload_n C 3 dX1_sinkCoat_75 rfl rfl ?_
      refine rx_callVi C [.int x1, .int x3] [.int x3, .int x1, .ref (α 6)] (m_X2_count z.l C.inj x1 x3 σ) mv_X2_count lk_X1_98 sx_6 rfl rfl rfl (Nat.le_of_ble_eq_true rfl) ⟨Nat.le_of_ble_eq_true rfl, Nat.le_of_ble_eq_true rfl⟩ dX1_sinkCoat_76 (fun q14 => ?_)
      refine rx_ineg C dX1_sinkCoat_79 ?_
      refine rx_callVv C [.int x1, .int x3, .int (-q14.1)] [] (m_X2_change z.l C.inj x1 x3 (-q14.1) q14.2) mv_X2_change lk_X1_104 sx_6 rfl rfl rfl (Nat.le_of_ble_eq_true rfl) ⟨Nat.le_of_ble_eq_true rfl, Nat.le_of_ble_eq_true rfl⟩ dX1_sinkCoat_80 (fun q15 => ?_)
      refine rx_iinc C (k0 := 3) (v := x3 + (1 : Int32)) [(3, .int (x3 + (1 : Int32))), (0, .ref (α 18)), (1, .int x1), (2, .int x2)] dX1_sinkCoat_83 rfl (congrArg _ ic_1) (by decide) rfl ?_
      refine rx_goto C (tgt := 58) dX1_sinkCoat_86 (by decide) ?_
      exact RX.loc (hk_58 x1 x2 (x3 + (1 : Int32)) q15.2) [1, 2, 3, 0] rfl
set_option maxRecDepth 100000 in
set_option maxHeartbeats 4000000 in
theorem w_X1_sinkCoat_24 {α : Nat → Nat} {D : va_G} {cA : Nat → ClassId} {z : Cz} (C : CX shX α D cA z RX1 cX1_sinkCoat 4 (some .int) 3 68) : ∀ (n : Nat) (x1 : Int32) (x2 : Int32) (x3 : Int32) (σ : St), RX emI shX α D cA z 4 σ 24 [(0, .ref (α 18)), (1, .int x1), (2, .int x2), (3, .int x3)] [] (f_X1_sinkCoat_24 n x1 x2 x3 σ) := by
  intro n
  induction n with
  | zero => intros; exact rx_none
  | succ n hk_24 =>
    intro x1 x2 x3 σ
    rw [f_X1_sinkCoat_24.eq_2]
    refine rx_iload_n C 3 dX1_sinkCoat_24 rfl rfl ?_
    refine rx_aload_n C 0 dX1_sinkCoat_25 rfl rfl ?_
    refine rx_getC C (k := 0) sx_18 fc_X1 (by decide) 6 rfl lk_X1_9 dX1_sinkCoat_26 ?_
    refine rx_getR C (k := 0) sx_6 fc_X2 (by decide) rfl lk_X1_85 dX1_sinkCoat_29 ?_
    refine rx_ltr (fun g11 => ?_)
    refine rx_if (fun hg11 => ?_) (fun _ => rx_none)
    refine rx_getC C (k := 1) (ld_sh (landB_is hg11)) fc_X4 (by decide) (g11 + 4) rfl lk_X1_137 dX1_sinkCoat_32 ?_
    refine rx_getI C (k := 4) (ro_sh (ld_4 (landB_is hg11))) fc_X8 (by decide) rfl lk_X1_42 dX1_sinkCoat_35 ?_
    refine rx_icmp_ge C (tgt := 56) dX1_sinkCoat_38 (by decide) (fun _ => ?_) (fun _ => ?_)
    · refine rx_iconst C dX1_sinkCoat_56 ic_0 ?_
      refine rx_istore_n C [(3, .int (0 : Int32)), (0, .ref (α 18)), (1, .int x1), (2, .int x2)] dX1_sinkCoat_57 rfl (by decide) rfl ?_
      exact RX.loc (w_X1_sinkCoat_58 C FU x1 x2 (0 : Int32) σ) [1, 2, 3, 0] rfl
    · refine rx_aload_n C 0 dX1_sinkCoat_41 rfl rfl ?_
      refine rx_getC C (k := 0) sx_18 fc_X1 (by decide) 6 rfl lk_X1_9 dX1_sinkCoat_42 ?_
      refine rx_iload_n C 1 dX1_sinkCoat_45 rfl rfl ?_
      refine rx_iload_n C 3 dX1_sinkCoat_46 rfl rfl ?_
      refine rx_callVv C [.int x1, .int x3] [] (m_X2_go z.l C.inj x1 x3 σ) mv_X2_go lk_X1_79 sx_6 rfl rfl rfl (Nat.le_of_ble_eq_true rfl) ⟨Nat.le_of_ble_eq_true rfl, Nat.le_of_ble_eq_true rfl⟩ dX1_sinkCoat_47 (fun q16 => ?_)
      refine rx_iinc C (k0 := 3) (v := x3 + (1 : Int32)) [(3, .int (x3 + (1 : Int32))), (0, .ref (α 18)), (1, .int x1), (2, .int x2)] dX1_sinkCoat_50 rfl (congrArg _ ic_1) (by decide) rfl ?_
      refine rx_goto C (tgt := 24) dX1_sinkCoat_53 (by decide) ?_
      exact RX.loc (hk_24 x1 x2 (x3 + (1 : Int32)) q16.2) [1, 2, 3, 0] rfl
set_option maxRecDepth 100000 in
set_option maxHeartbeats 4000000 in
theorem w_X1_sinkCoat_e {α : Nat → Nat} {D : va_G} {cA : Nat → ClassId} {z : Cz} (C : CX shX α D cA z RX1 cX1_sinkCoat 4 (some .int) 3 68) (x1 : Int32) (σ : St) : RX emI shX α D cA z 4 σ 0 [(0, .ref (α 18)), (1, .int x1)] [] (f_X1_sinkCoat x1 σ) := by
  unfold f_X1_sinkCoat
  refine rx_aload_n C 0 dX1_sinkCoat_0 rfl rfl ?_
  refine rx_getC C (k := 0) sx_18 fc_X1 (by decide) 6 rfl lk_X1_9 dX1_sinkCoat_1 ?_
  refine rx_iload_n C 1 dX1_sinkCoat_4 rfl rfl ?_
  refine rx_callVi C [.int x1] [] (m_X2_isPerson z.l C.inj x1 σ) mv_X2_isPerson lk_X1_94 sx_6 rfl rfl rfl (Nat.le_of_ble_eq_true rfl) ⟨Nat.le_of_ble_eq_true rfl, Nat.le_of_ble_eq_true rfl⟩ dX1_sinkCoat_5 (fun q9 => ?_)
  refine rx_if_ne C (tgt := 13) dX1_sinkCoat_8 (by decide) (fun _ => ?_) (fun _ => ?_)
  · refine rx_iconst C dX1_sinkCoat_11 ic_m1 ?_
    exact rx_iret C dX1_sinkCoat_12
  · refine rx_aload_n C 0 dX1_sinkCoat_13 rfl rfl ?_
    refine rx_getC C (k := 0) sx_18 fc_X1 (by decide) 6 rfl lk_X1_9 dX1_sinkCoat_14 ?_
    refine rx_iload_n C 1 dX1_sinkCoat_17 rfl rfl ?_
    refine rx_callVi C [.int x1] [] (m_X2_loadOf z.l C.inj x1 q9.2) mv_X2_loadOf lk_X1_71 sx_6 rfl rfl rfl (Nat.le_of_ble_eq_true rfl) ⟨Nat.le_of_ble_eq_true rfl, Nat.le_of_ble_eq_true rfl⟩ dX1_sinkCoat_18 (fun q10 => ?_)
    refine rx_istore_n C [(2, .int q10.1), (0, .ref (α 18)), (1, .int x1)] dX1_sinkCoat_21 rfl (by decide) rfl ?_
    refine rx_iconst C dX1_sinkCoat_22 ic_0 ?_
    refine rx_istore_n C [(3, .int (0 : Int32)), (2, .int q10.1), (0, .ref (α 18)), (1, .int x1)] dX1_sinkCoat_23 rfl (by decide) rfl ?_
    exact RX.loc (w_X1_sinkCoat_24 C FU x1 q10.1 (0 : Int32) q10.2) [2, 3, 1, 0] rfl
theorem m_X1_sinkCoat (l : Launch) {α : Nat → Nat} {D : va_G} {cA : Nat → ClassId} (hin : inj shX.length α) (x1 : Int32) (σ : St) : CT shX l yX1_sinkCoat cX1_sinkCoat 4 (some .int) 3 68 emI α D cA [.ref (α 18), .int x1] σ (f_X1_sinkCoat x1 σ) := ct_of rfl (Nat.le_of_ble_eq_true rfl) hin (fun z _ C => w_X1_sinkCoat_e C x1 σ)
set_option maxRecDepth 100000 in
set_option maxHeartbeats 4000000 in
theorem w_X1_castBullet_24 {α : Nat → Nat} {D : va_G} {cA : Nat → ClassId} {z : Cz} (C : CX shX α D cA z RX1 cX1_castBullet 4 (some .int) 3 68) (σ : St) : RX emI shX α D cA z 4 σ 24 [] [] (f_X1_castBullet_24 σ) := by
  unfold f_X1_castBullet_24
  refine rx_iconst C dX1_castBullet_24 ic_m1 ?_
  exact rx_iret C dX1_castBullet_25
set_option maxRecDepth 100000 in
set_option maxHeartbeats 4000000 in
theorem w_X1_castBullet_e {α : Nat → Nat} {D : va_G} {cA : Nat → ClassId} {z : Cz} (C : CX shX α D cA z RX1 cX1_castBullet 4 (some .int) 3 68) (x1 : Int32) (x2 : Int32) (σ : St) : RX emI shX α D cA z 4 σ 0 [(0, .ref (α 18)), (1, .int x1), (2, .int x2)] [] (f_X1_castBullet x1 x2 σ) := by
  unfold f_X1_castBullet
  refine rx_aload_n C 0 dX1_castBullet_0 rfl rfl ?_
  refine rx_getC C (k := 0) sx_18 fc_X1 (by decide) 6 rfl lk_X1_9 dX1_castBullet_1 ?_
  refine rx_iload_n C 1 dX1_castBullet_4 rfl rfl ?_
  refine rx_iload_n C 2 dX1_castBullet_5 rfl rfl ?_
  refine rx_callVi C [.int x1, .int x2] [] (m_X2_bears z.l C.inj x1 x2 σ) mv_X2_bears lk_X1_75 sx_6 rfl rfl rfl (Nat.le_of_ble_eq_true rfl) ⟨Nat.le_of_ble_eq_true rfl, Nat.le_of_ble_eq_true rfl⟩ dX1_castBullet_6 (fun q8 => ?_)
  refine rx_if_eq C (tgt := 24) dX1_castBullet_9 (by decide) (fun _ => ?_) (fun _ => ?_)
  · exact RX.loc (w_X1_castBullet_24 C q8.2) [] rfl
  · refine rx_aload_n C 0 dX1_castBullet_12 rfl rfl ?_
    refine rx_getC C (k := 0) sx_18 fc_X1 (by decide) 6 rfl lk_X1_9 dX1_castBullet_13 ?_
    refine rx_getI C (k := 3) sx_6 fc_X2 (by decide) rfl lk_X1_143 dX1_castBullet_16 ?_
    refine rx_bipush C dX1_castBullet_19 bp_30 ?_
    refine rx_icmp_lt C (tgt := 26) dX1_castBullet_21 (by decide) (fun _ => ?_) (fun _ => ?_)
    · refine rx_aload_n C 0 dX1_castBullet_26 rfl rfl ?_
      refine rx_getC C (k := 0) sx_18 fc_X1 (by decide) 6 rfl lk_X1_9 dX1_castBullet_27 ?_
      refine rx_getR C (k := 0) sx_6 fc_X2 (by decide) rfl lk_X1_85 dX1_castBullet_30 ?_
      refine rx_ltr (fun g9 => ?_)
      refine rx_if (fun hg9 => ?_) (fun _ => rx_none)
      refine rx_iload_n C 2 dX1_castBullet_33 rfl rfl ?_
      refine rx_callVi C [.int x2] [] (m_X4_titleOunces z.l C.inj g9 (landB_is hg9) x2 q8.2) mv_X4_titleOunces lk_X1_89 (ld_sh (landB_is hg9)) rfl rfl rfl (Nat.le_of_ble_eq_true rfl) ⟨Nat.le_of_ble_eq_true rfl, Nat.le_of_ble_eq_true rfl⟩ dX1_castBullet_34 (fun q10 => ?_)
      refine rx_istore_n C [(3, .int q10.1), (0, .ref (α 18)), (1, .int x1), (2, .int x2)] dX1_castBullet_37 rfl (by decide) rfl ?_
      refine rx_aload_n C 1 dX1_castBullet_38 rfl rfl ?_
      refine rx_getC C (k := 0) sx_18 fc_X1 (by decide) 6 rfl lk_X1_9 dX1_castBullet_39 ?_
      refine rx_iload_n C 2 dX1_castBullet_42 rfl rfl ?_
      refine rx_iload_n C 3 dX1_castBullet_43 rfl rfl ?_
      refine rx_callVv C [.int x1, .int x2] [] (m_X2_go z.l C.inj x1 x2 q10.2) mv_X2_go lk_X1_79 sx_6 rfl rfl rfl (Nat.le_of_ble_eq_true rfl) ⟨Nat.le_of_ble_eq_true rfl, Nat.le_of_ble_eq_true rfl⟩ dX1_castBullet_44 (fun q11 => ?_)
      refine rx_aload_n C 1 dX1_castBullet_47 rfl rfl ?_
      refine rx_getC C (k := 0) sx_18 fc_X1 (by decide) 6 rfl lk_X1_9 dX1_castBullet_48 ?_
      refine rx_getC C (k := 6) sx_6 fc_X2 (by decide) 9 rfl lk_X1_146 dX1_castBullet_51 ?_
      refine rx_aload_n C 1 dX1_castBullet_54 rfl rfl ?_
      refine rx_getC C (k := 0) sx_18 fc_X1 (by decide) 6 rfl lk_X1_9 dX1_castBullet_55 ?_
      refine rx_getI C (k := 3) sx_6 fc_X2 (by decide) rfl lk_X1_143 dX1_castBullet_58 ?_
      refine rx_iload_n C 0 dX1_castBullet_61 rfl rfl ?_
      refine rx_iast C (n := 30) sx_9 dX1_castBullet_62 (fun _ => ?_)
      refine rx_lts (fun σ12 => ?_)
      refine rx_aload_n C 1 dX1_castBullet_63 rfl rfl ?_
      refine rx_getC C (k := 0) sx_18 fc_X1 (by decide) 6 rfl lk_X1_9 dX1_castBullet_64 ?_
      refine rx_dup C dX1_castBullet_67 rfl ?_
      refine rx_getI C (k := 3) sx_6 fc_X2 (by decide) rfl lk_X1_143 dX1_castBullet_68 ?_
      refine rx_iconst C dX1_castBullet_71 ic_1 ?_
      refine rx_iadd C dX1_castBullet_72 ?_
      refine rx_putI C (k := 3) sx_6 fc_X2 (by decide) rfl lk_X1_143 rfl ⟨rfl, rfl⟩ dX1_castBullet_73 ?_
      refine rx_lts (fun σ13 => ?_)
      refine rx_aload_n C 1 dX1_castBullet_76 rfl rfl ?_
      refine rx_bipush C dX1_castBullet_77 bp_7 ?_
      refine rx_iload_n C 2 dX1_castBullet_79 rfl rfl ?_
      refine rx_iconst C dX1_castBullet_80 ic_m1 ?_
      refine rx_iload_n C 0 dX1_castBullet_81 rfl rfl ?_
      refine rx_callVv C [.int (7 : Int32), .int x1, .int (-1 : Int32), .int q10.1] [] (m_X1_note z.l C.inj (7 : Int32) x1 (-1 : Int32) q10.1 σ13) mv_X1_note lk_X1_67 sx_18 rfl rfl rfl (Nat.le_of_ble_eq_true rfl) ⟨Nat.le_of_ble_eq_true rfl, Nat.le_of_ble_eq_true rfl⟩ dX1_castBullet_82 (fun q14 => ?_)
      refine rx_aload_n C 1 dX1_castBullet_85 rfl rfl ?_
      refine rx_getC C (k := 0) sx_18 fc_X1 (by decide) 6 rfl lk_X1_9 dX1_castBullet_86 ?_
      refine rx_getI C (k := 3) sx_6 fc_X2 (by decide) rfl lk_X1_143 dX1_castBullet_89 ?_
      exact rx_iret C dX1_castBullet_92
    · exact RX.loc (w_X1_castBullet_24 C q8.2) [] rfl
theorem m_X1_castBullet (l : Launch) {α : Nat → Nat} {D : va_G} {cA : Nat → ClassId} (hin : inj shX.length α) (x1 : Int32) (x2 : Int32) (σ : St) : CT shX l yX1_castBullet cX1_castBullet 4 (some .int) 3 68 emI α D cA [.ref (α 18), .int x1, .int x2] σ (f_X1_castBullet x1 x2 σ) := ct_of rfl (Nat.le_of_ble_eq_true rfl) hin (fun z _ C => w_X1_castBullet_e C x1 x2 σ)
set_option maxRecDepth 100000 in
set_option maxHeartbeats 4000000 in
theorem w_X2_pourLoose_2 {α : Nat → Nat} {D : va_G} {cA : Nat → ClassId} {z : Cz} (C : CX shX α D cA z RX2 cX2_pourLoose 4 none 1 23) : ∀ (n : Nat) (x1 : Int32) (x2 : Int32) (σ : St), RX emV shX α D cA z 4 σ 2 [(0, .ref (α 6)), (1, .int x1), (2, .int x2)] [] (f_X2_pourLoose_2 n x1 x2 σ) := by
  intro n
  induction n with
  | zero => intros; exact rx_none
  | succ n hk_2 =>
    intro x1 x2 σ
    rw [f_X2_pourLoose_2.eq_2]
    refine rx_iload_n C 2 dX2_pourLoose_2 rfl rfl ?_
    refine rx_bipush C dX2_pourLoose_3 bp_26 ?_
    refine rx_icmp_ge C (tgt := 37) dX2_pourLoose_5 (by decide) (fun _ => ?_) (fun _ => ?_)
    · exact rx_vret C dX2_pourLoose_37
    · refine rx_aload_n C 0 dX2_pourLoose_8 rfl rfl ?_
      refine rx_iload_n C 1 dX2_pourLoose_9 rfl rfl ?_
      refine rx_iload_n C 2 dX2_pourLoose_10 rfl rfl ?_
      refine rx_callVi C [.int x1, .int x2] [] (m_X2_count z.l C.inj x1 x2 σ) mv_X2_count lk_X2_134 sx_6 rfl rfl rfl (Nat.le_of_ble_eq_true rfl) ⟨Nat.le_of_ble_eq_true rfl, Nat.le_of_ble_eq_true rfl⟩ dX2_pourLoose_11 (fun q4 => ?_)
      refine rx_istore_n C [(3, .int q4.1), (0, .ref (α 6)), (1, .int x1), (2, .int x2)] dX2_pourLoose_14 rfl (by decide) rfl ?_
      refine rx_aload_n C 1 dX2_pourLoose_15 rfl rfl ?_
      refine rx_iload_n C 2 dX2_pourLoose_16 rfl rfl ?_
      refine rx_iload_n C 3 dX2_pourLoose_17 rfl rfl ?_
      refine rx_iload_n C 0 dX2_pourLoose_18 rfl rfl ?_
      refine rx_ineg C dX2_pourLoose_19 ?_
      refine rx_callVv C [.int x1, .int x2, .int (-q4.1)] [] (m_X2_change z.l C.inj x1 x2 (-q4.1) q4.2) mv_X2_change lk_X2_130 sx_6 rfl rfl rfl (Nat.le_of_ble_eq_true rfl) ⟨Nat.le_of_ble_eq_true rfl, Nat.le_of_ble_eq_true rfl⟩ dX2_pourLoose_20 (fun q5 => ?_)
      refine rx_aload_n C 1 dX2_pourLoose_23 rfl rfl ?_
      refine rx_bipush C dX2_pourLoose_24 bp_8 ?_
      refine rx_iload_n C 3 dX2_pourLoose_26 rfl rfl ?_
      refine rx_iload_n C 0 dX2_pourLoose_27 rfl rfl ?_
      refine rx_callVv C [.int (8 : Int32), .int x2, .int q4.1] [] (m_X2_change z.l C.inj (8 : Int32) x2 q4.1 q5.2) mv_X2_change lk_X2_130 sx_6 rfl rfl rfl (Nat.le_of_ble_eq_true rfl) ⟨Nat.le_of_ble_eq_true rfl, Nat.le_of_ble_eq_true rfl⟩ dX2_pourLoose_28 (fun q6 => ?_)
      refine rx_iinc C (k0 := 3) (v := x2 + (1 : Int32)) [(2, .int (x2 + (1 : Int32))), (3, .int q4.1), (0, .ref (α 6)), (1, .int x1)] dX2_pourLoose_31 rfl (congrArg _ ic_1) (by decide) rfl ?_
      refine rx_goto C (tgt := 2) dX2_pourLoose_34 (by decide) ?_
      exact RX.loc (hk_2 x1 (x2 + (1 : Int32)) q6.2) [2, 3, 0] rfl
set_option maxRecDepth 100000 in
set_option maxHeartbeats 4000000 in
theorem w_X2_pourLoose_e {α : Nat → Nat} {D : va_G} {cA : Nat → ClassId} {z : Cz} (C : CX shX α D cA z RX2 cX2_pourLoose 4 none 1 23) (x1 : Int32) (σ : St) : RX emV shX α D cA z 4 σ 0 [(0, .ref (α 6)), (1, .int x1)] [] (f_X2_pourLoose x1 σ) := by
  unfold f_X2_pourLoose
  refine rx_iconst C dX2_pourLoose_0 ic_0 ?_
  refine rx_istore_n C [(2, .int (0 : Int32)), (0, .ref (α 6)), (1, .int x1)] dX2_pourLoose_1 rfl (by decide) rfl ?_
  exact RX.loc (w_X2_pourLoose_2 C FU x1 (0 : Int32) σ) [1, 2, 0] rfl
theorem m_X2_pourLoose (l : Launch) {α : Nat → Nat} {D : va_G} {cA : Nat → ClassId} (hin : inj shX.length α) (x1 : Int32) (σ : St) : CT shX l yX2_pourLoose cX2_pourLoose 4 none 1 23 emV α D cA [.ref (α 6), .int x1] σ (f_X2_pourLoose x1 σ) := ct_of rfl (Nat.le_of_ble_eq_true rfl) hin (fun z _ C => w_X2_pourLoose_e C x1 σ)
set_option maxRecDepth 100000 in
set_option maxHeartbeats 4000000 in
theorem w_X9_compare_55 {α : Nat → Nat} {D : va_G} {cA : Nat → ClassId} {z : Cz} (C : CX shX α D cA z RX9 cX9_compare 4 none 1 20) (σ : St) : RX emV shX α D cA z 4 σ 55 [] [] (f_X9_compare_55 σ) := by
  unfold f_X9_compare_55
  exact rx_vret C dX9_compare_55
set_option maxRecDepth 100000 in
set_option maxHeartbeats 4000000 in
theorem w_X9_compare_45 {α : Nat → Nat} {D : va_G} {cA : Nat → ClassId} {z : Cz} (C : CX shX α D cA z RX9 cX9_compare 4 none 1 20) (x1 : Int32) (x2 : Int32) (σ : St) : RX emV shX α D cA z 4 σ 45 [(0, .ref (α 24)), (1, .int x1), (2, .int x2)] [] (f_X9_compare_45 x1 x2 σ) := by
  unfold f_X9_compare_45
  refine rx_aload_n C 0 dX9_compare_45 rfl rfl ?_
  refine rx_iload_n C 1 dX9_compare_46 rfl rfl ?_
  refine rx_putI C (k := 9) sx_24 fc_X9 (by decide) rfl lk_X9_64 rfl ⟨rfl, rfl⟩ dX9_compare_47 ?_
  refine rx_lts (fun σ9 => ?_)
  refine rx_aload_n C 0 dX9_compare_50 rfl rfl ?_
  refine rx_iload_n C 2 dX9_compare_51 rfl rfl ?_
  refine rx_putI C (k := 10) sx_24 fc_X9 (by decide) rfl lk_X9_67 rfl ⟨rfl, rfl⟩ dX9_compare_52 ?_
  refine rx_lts (fun σ10 => ?_)
  exact RX.loc (w_X9_compare_55 C σ10) [] rfl
set_option maxRecDepth 100000 in
set_option maxHeartbeats 4000000 in
theorem w_X9_compare_e {α : Nat → Nat} {D : va_G} {cA : Nat → ClassId} {z : Cz} (C : CX shX α D cA z RX9 cX9_compare 4 none 1 20) (x1 : Int32) (x2 : Int32) (σ : St) : RX emV shX α D cA z 4 σ 0 [(0, .ref (α 24)), (1, .int x1), (2, .int x2)] [] (f_X9_compare x1 x2 σ) := by
  unfold f_X9_compare
  refine rx_aload_n C 0 dX9_compare_0 rfl rfl ?_
  refine rx_getI C (k := 9) sx_24 fc_X9 (by decide) rfl lk_X9_64 dX9_compare_1 ?_
  refine rx_callSi C [.int (gI σ 24 9)] [] (m_J6_bitCount_0f7a4 z.l C.inj (gI σ 24 9) σ) ms_J6_bitCount_0f7a4 lk_X9_78 rfl rfl (Nat.le_of_ble_eq_true rfl) ⟨Nat.le_of_ble_eq_true rfl, Nat.le_of_ble_eq_true rfl⟩ dX9_compare_4 (fun q6 => ?_)
  refine rx_iload_n C 1 dX9_compare_7 rfl rfl ?_
  refine rx_callSi C [.int x1] [.int q6.1] (m_J6_bitCount_0f7a4 z.l C.inj x1 q6.2) ms_J6_bitCount_0f7a4 lk_X9_78 rfl rfl (Nat.le_of_ble_eq_true rfl) ⟨Nat.le_of_ble_eq_true rfl, Nat.le_of_ble_eq_true rfl⟩ dX9_compare_8 (fun q7 => ?_)
  refine rx_isub C dX9_compare_11 ?_
  refine rx_lti (fun w8 => ?_)
  refine rx_istore_n C [(3, .int w8), (0, .ref (α 24)), (1, .int x1), (2, .int x2)] dX9_compare_12 rfl (by decide) rfl ?_
  refine rx_iload_n C 3 dX9_compare_13 rfl rfl ?_
  refine rx_aload_n C 1 dX9_compare_14 rfl rfl ?_
  refine rx_getI C (k := 10) sx_24 fc_X9 (by decide) rfl lk_X9_67 dX9_compare_15 ?_
  refine rx_icmp_gt C (tgt := 45) dX9_compare_18 (by decide) (fun _ => ?_) (fun _ => ?_)
  · exact RX.loc (w_X9_compare_45 C x1 x2 q7.2) [1, 2, 3] rfl
  · refine rx_iload_n C 3 dX9_compare_21 rfl rfl ?_
    refine rx_aload_n C 1 dX9_compare_22 rfl rfl ?_
    refine rx_getI C (k := 10) sx_24 fc_X9 (by decide) rfl lk_X9_67 dX9_compare_23 ?_
    refine rx_icmp_ne C (tgt := 55) dX9_compare_26 (by decide) (fun _ => ?_) (fun _ => ?_)
    · refine rx_iload_n C 0 dX9_compare_29 rfl rfl ?_
      refine rx_if_gt C (tgt := 45) dX9_compare_30 (by decide) (fun _ => ?_) (fun _ => ?_)
      · exact RX.loc (w_X9_compare_45 C x1 x2 q7.2) [1, 2, 3] rfl
      · refine rx_iload_n C 0 dX9_compare_33 rfl rfl ?_
        refine rx_if_ne C (tgt := 55) dX9_compare_34 (by decide) (fun _ => ?_) (fun _ => ?_)
        · refine rx_iload_n C 2 dX9_compare_37 rfl rfl ?_
          refine rx_aload_n C 1 dX9_compare_38 rfl rfl ?_
          refine rx_getI C (k := 9) sx_24 fc_X9 (by decide) rfl lk_X9_64 dX9_compare_39 ?_
          refine rx_icmp_ge C (tgt := 55) dX9_compare_42 (by decide) (fun _ => ?_) (fun _ => ?_)
          · exact RX.loc (w_X9_compare_55 C q7.2) [] rfl
          · exact RX.loc (w_X9_compare_45 C x1 x2 q7.2) [1, 2, 3] rfl
        · exact RX.loc (w_X9_compare_55 C q7.2) [] rfl
    · exact RX.loc (w_X9_compare_55 C q7.2) [] rfl
theorem m_X9_compare (l : Launch) {α : Nat → Nat} {D : va_G} {cA : Nat → ClassId} (hin : inj shX.length α) (x1 : Int32) (x2 : Int32) (σ : St) : CT shX l yX9_compare cX9_compare 4 none 1 20 emV α D cA [.ref (α 24), .int x1, .int x2] σ (f_X9_compare x1 x2 σ) := ct_of rfl (Nat.le_of_ble_eq_true rfl) hin (fun z _ C => w_X9_compare_e C x1 x2 σ)
set_option maxRecDepth 100000 in
set_option maxHeartbeats 4000000 in
theorem w_X9_choose_12 {d : Nat} {α : Nat → Nat} {D : va_G} {cA : Nat → ClassId} {z : Cz} (C : CX shX α D cA z RX9 cX9_choose 5 none (1 * d + 3) (24 * d + 67)) (rec : Int32 → Int32 → Int32 → Int32 → St → Option (Unit × St)) (hrec : ∀ (x1 : Int32) (x2 : Int32) (x3 : Int32) (x4 : Int32) (σ : St), CT shX z.l yX9_choose cX9_choose 5 none (1 * d + 2) (24 * d + 43) emV α D cA [.ref (α 24), .int x1, .int x2, .int x3, .int x4] σ (rec x1 x2 x3 x4 σ)) (x2 : Int32) (x3 : Int32) (σ : St) : RX emV shX α D cA z 5 σ 12 [(0, .ref (α 24)), (2, .int x2), (3, .int x3)] [] (f_X9_choose_12 rec x2 x3 σ) := by
  unfold f_X9_choose_12
  refine rx_aload_n C 0 dX9_choose_12 rfl rfl ?_
  refine rx_iload_n C 1 dX9_choose_13 rfl rfl ?_
  refine rx_iload_n C 2 dX9_choose_14 rfl rfl ?_
  refine rx_callVv C [.int x2, .int x3] [] (m_X9_compare z.l C.inj x2 x3 σ) mv_X9_compare lk_X9_74 sx_24 rfl rfl rfl (Nat.le_of_ble_eq_true rfl) ⟨by omega, by omega⟩ dX9_choose_15 (fun q4 => ?_)
  exact rx_vret C dX9_choose_18
set_option maxRecDepth 100000 in
set_option maxHeartbeats 4000000 in
theorem w_X9_choose_86 {d : Nat} {α : Nat → Nat} {D : va_G} {cA : Nat → ClassId} {z : Cz} (C : CX shX α D cA z RX9 cX9_choose 5 none (1 * d + 3) (24 * d + 67)) (rec : Int32 → Int32 → Int32 → Int32 → St → Option (Unit × St)) (hrec : ∀ (x1 : Int32) (x2 : Int32) (x3 : Int32) (x4 : Int32) (σ : St), CT shX z.l yX9_choose cX9_choose 5 none (1 * d + 2) (24 * d + 43) emV α D cA [.ref (α 24), .int x1, .int x2, .int x3, .int x4] σ (rec x1 x2 x3 x4 σ)) (x1 : Int32) (x2 : Int32) (x3 : Int32) (x4 : Int32) (σ : St) : RX emV shX α D cA z 5 σ 86 [(0, .ref (α 24)), (1, .int x1), (2, .int x2), (3, .int x3), (4, .int x4)] [] (f_X9_choose_86 rec x1 x2 x3 x4 σ) := by
  unfold f_X9_choose_86
  refine rx_aload_n C 0 dX9_choose_86 rfl rfl ?_
  refine rx_iload_n C 1 dX9_choose_87 rfl rfl ?_
  refine rx_iconst C dX9_choose_88 ic_1 ?_
  refine rx_iadd C dX9_choose_89 ?_
  refine rx_iload_n C 2 dX9_choose_90 rfl rfl ?_
  refine rx_iload_n C 3 dX9_choose_91 rfl rfl ?_
  refine rx_iload C 4 dX9_choose_92 rfl ?_
  refine rx_callVv C [.int (x1 + (1 : Int32)), .int x2, .int x3, .int x4] [] (hrec (x1 + (1 : Int32)) x2 x3 x4 σ) mv_X9_choose lk_X9_70 sx_24 rfl rfl rfl (Nat.le_of_ble_eq_true rfl) ⟨by omega, by omega⟩ dX9_choose_94 (fun q5 => ?_)
  exact rx_vret C dX9_choose_97
set_option maxRecDepth 100000 in
set_option maxHeartbeats 4000000 in
theorem w_X9_choose_e {d : Nat} {α : Nat → Nat} {D : va_G} {cA : Nat → ClassId} {z : Cz} (C : CX shX α D cA z RX9 cX9_choose 5 none (1 * d + 3) (24 * d + 67)) (rec : Int32 → Int32 → Int32 → Int32 → St → Option (Unit × St)) (hrec : ∀ (x1 : Int32) (x2 : Int32) (x3 : Int32) (x4 : Int32) (σ : St), CT shX z.l yX9_choose cX9_choose 5 none (1 * d + 2) (24 * d + 43) emV α D cA [.ref (α 24), .int x1, .int x2, .int x3, .int x4] σ (rec x1 x2 x3 x4 σ)) (x1 : Int32) (x2 : Int32) (x3 : Int32) (x4 : Int32) (σ : St) : RX emV shX α D cA z 5 σ 0 [(0, .ref (α 24)), (1, .int x1), (2, .int x2), (3, .int x3), (4, .int x4)] [] (fb_X9_choose rec x1 x2 x3 x4 σ) := by
  unfold fb_X9_choose
  refine rx_iload_n C 1 dX9_choose_0 rfl rfl ?_
  refine rx_if_lt C (tgt := 12) dX9_choose_1 (by decide) (fun _ => ?_) (fun _ => ?_)
  · exact RX.loc (w_X9_choose_12 C rec hrec x2 x3 σ) [0, 2, 3] rfl
  · refine rx_iload_n C 1 dX9_choose_4 rfl rfl ?_
    refine rx_aload_n C 0 dX9_choose_5 rfl rfl ?_
    refine rx_getI C (k := 8) sx_24 fc_X9 (by decide) rfl lk_X9_54 dX9_choose_6 ?_
    refine rx_icmp_lt C (tgt := 19) dX9_choose_9 (by decide) (fun _ => ?_) (fun _ => ?_)
    · refine rx_iload_n C 3 dX9_choose_19 rfl rfl ?_
      refine rx_aload_n C 0 dX9_choose_20 rfl rfl ?_
      refine rx_getC C (k := 2) sx_24 fc_X9 (by decide) 27 rfl lk_X9_18 dX9_choose_21 ?_
      refine rx_iload_n C 1 dX9_choose_24 rfl rfl ?_
      refine rx_iald C (n := 13) sx_27 dX9_choose_25 (fun _ => ?_)
      refine rx_iadd C dX9_choose_26 ?_
      refine rx_aload_n C 0 dX9_choose_27 rfl rfl ?_
      refine rx_getI C (k := 10) sx_24 fc_X9 (by decide) rfl lk_X9_67 dX9_choose_28 ?_
      refine rx_icmp_ge C (tgt := 35) dX9_choose_31 (by decide) (fun _ => ?_) (fun _ => ?_)
      · refine rx_aload_n C 0 dX9_choose_35 rfl rfl ?_
        refine rx_getI C (k := 7) sx_24 fc_X9 (by decide) rfl lk_X9_33 dX9_choose_36 ?_
        refine rx_iload_n C 1 dX9_choose_39 rfl rfl ?_
        refine rx_ishr C dX9_choose_40 ?_
        refine rx_iconst C dX9_choose_41 ic_1 ?_
        refine rx_iand C dX9_choose_42 ?_
        refine rx_if_eq C (tgt := 86) dX9_choose_43 (by decide) (fun _ => ?_) (fun _ => ?_)
        · exact RX.loc (w_X9_choose_86 C rec hrec x1 x2 x3 x4 σ) [0, 1, 2, 3, 4] rfl
        · refine rx_aload_n C 0 dX9_choose_46 rfl rfl ?_
          refine rx_getC C (k := 0) sx_24 fc_X9 (by decide) 25 rfl lk_X9_9 dX9_choose_47 ?_
          refine rx_iload_n C 1 dX9_choose_50 rfl rfl ?_
          refine rx_iald C (n := 12) sx_25 dX9_choose_51 (fun _ => ?_)
          refine rx_iload C 4 dX9_choose_52 rfl ?_
          refine rx_icmp_gt C (tgt := 86) dX9_choose_54 (by decide) (fun _ => ?_) (fun _ => ?_)
          · exact RX.loc (w_X9_choose_86 C rec hrec x1 x2 x3 x4 σ) [0, 1, 2, 3, 4] rfl
          · refine rx_aload_n C 0 dX9_choose_57 rfl rfl ?_
            refine rx_iload_n C 1 dX9_choose_58 rfl rfl ?_
            refine rx_iconst C dX9_choose_59 ic_1 ?_
            refine rx_iadd C dX9_choose_60 ?_
            refine rx_iload_n C 2 dX9_choose_61 rfl rfl ?_
            refine rx_iconst C dX9_choose_62 ic_1 ?_
            refine rx_iload_n C 1 dX9_choose_63 rfl rfl ?_
            refine rx_ishl C dX9_choose_64 ?_
            refine rx_ior C dX9_choose_65 ?_
            refine rx_iload_n C 3 dX9_choose_66 rfl rfl ?_
            refine rx_aload_n C 0 dX9_choose_67 rfl rfl ?_
            refine rx_getC C (k := 1) sx_24 fc_X9 (by decide) 26 rfl lk_X9_15 dX9_choose_68 ?_
            refine rx_iload_n C 1 dX9_choose_71 rfl rfl ?_
            refine rx_iald C (n := 12) sx_26 dX9_choose_72 (fun _ => ?_)
            refine rx_iadd C dX9_choose_73 ?_
            refine rx_iload C 4 dX9_choose_74 rfl ?_
            refine rx_aload_n C 0 dX9_choose_76 rfl rfl ?_
            refine rx_getC C (k := 0) sx_24 fc_X9 (by decide) 25 rfl lk_X9_9 dX9_choose_77 ?_
            refine rx_iload_n C 1 dX9_choose_80 rfl rfl ?_
            refine rx_iald C (n := 12) sx_25 dX9_choose_81 (fun _ => ?_)
            refine rx_isub C dX9_choose_82 ?_
            refine rx_callVv C [.int (x1 + (1 : Int32)), .int (x2 ||| ((1 : Int32) <<< (x1 &&& 31))), .int (x3 + (gI σ 26 (ix x1))), .int (x4 - (gI σ 25 (ix x1)))] [] (hrec (x1 + (1 : Int32)) (x2 ||| ((1 : Int32) <<< (x1 &&& 31))) (x3 + (gI σ 26 (ix x1))) (x4 - (gI σ 25 (ix x1))) σ) mv_X9_choose lk_X9_70 sx_24 rfl rfl rfl (Nat.le_of_ble_eq_true rfl) ⟨by omega, by omega⟩ dX9_choose_83 (fun q6 => ?_)
            exact RX.loc (w_X9_choose_86 C rec hrec x1 x2 x3 x4 q6.2) [0, 1, 2, 3, 4] rfl
      · exact rx_vret C dX9_choose_34
    · exact RX.loc (w_X9_choose_12 C rec hrec x2 x3 σ) [0, 2, 3] rfl
theorem m_X9_choose (l : Launch) {α : Nat → Nat} {D : va_G} {cA : Nat → ClassId} (hin : inj shX.length α) (d : Nat) : ∀ (x1 : Int32) (x2 : Int32) (x3 : Int32) (x4 : Int32) (σ : St), CT shX l yX9_choose cX9_choose 5 none (1 * d + 2) (24 * d + 43) emV α D cA [.ref (α 24), .int x1, .int x2, .int x3, .int x4] σ (f_X9_choose d x1 x2 x3 x4 σ) := by
  induction d with
  | zero => intro x1 x2 x3 x4 σ r σ1 e; cases e
  | succ d ih =>
    intro x1 x2 x3 x4 σ
    exact ct_of rfl (Nat.le_of_ble_eq_true rfl) hin (fun z hz C => w_X9_choose_e (d := d) (C.wider (by omega) (by omega)) (f_X9_choose d) (by rw [hz]; exact ih) x1 x2 x3 x4 σ)
set_option maxRecDepth 100000 in
set_option maxHeartbeats 4000000 in
theorem w_X9_bestSet_121 {α : Nat → Nat} {D : va_G} {cA : Nat → ClassId} {z : Cz} (C : CX shX α D cA z RX9 cX9_bestSet 6 (some .int) 27 643) (r1 : Nat) (hr1 : isLand r1) (k_39 : Int32 → Int32 → Int32 → St → Option (Int32 × St)) (hk_39 : ∀ (x2 : Int32) (x3 : Int32) (x4 : Int32) (σ : St), RX emI shX α D cA z 6 σ 39 [(0, .ref (α 24)), (1, .ref (α r1)), (2, .int x2), (3, .int x3), (4, .int x4)] [] (k_39 x2 x3 x4 σ)) (x2 : Int32) (x3 : Int32) (x4 : Int32) (s3 : Int32) (s2 : Int32) (s1 : Int32) (σ : St) : RX emI shX α D cA z 6 σ 121 [(0, .ref (α 24)), (1, .ref (α r1)), (2, .int x2), (3, .int x3), (4, .int x4)] [.int s3, .int s2, .int s1, .ref (α 27)] (f_X9_bestSet_121 r1 k_39 x2 x3 x4 s3 s2 s1 σ) := by
  unfold f_X9_bestSet_121
  refine rx_iadd C dX9_bestSet_121 ?_
  refine rx_iast C (n := 13) sx_27 dX9_bestSet_122 (fun _ => ?_)
  refine rx_lts (fun σ26 => ?_)
  refine rx_iinc C (k0 := 4) (v := x4 + (-1 : Int32)) [(4, .int (x4 + (-1 : Int32))), (0, .ref (α 24)), (1, .ref (α r1)), (2, .int x2), (3, .int x3)] dX9_bestSet_123 rfl (congrArg _ ic_m1) (by decide) rfl ?_
  refine rx_goto C (tgt := 39) dX9_bestSet_126 (by decide) ?_
  exact RX.loc (hk_39 x2 x3 (x4 + (-1 : Int32)) σ26) [1, 2, 3, 4, 0] rfl
set_option maxRecDepth 100000 in
set_option maxHeartbeats 4000000 in
theorem w_X9_bestSet_58 {α : Nat → Nat} {D : va_G} {cA : Nat → ClassId} {z : Cz} (C : CX shX α D cA z RX9 cX9_bestSet 6 (some .int) 27 643) (r1 : Nat) (hr1 : isLand r1) (k_39 : Int32 → Int32 → Int32 → St → Option (Int32 × St)) (hk_39 : ∀ (x2 : Int32) (x3 : Int32) (x4 : Int32) (σ : St), RX emI shX α D cA z 6 σ 39 [(0, .ref (α 24)), (1, .ref (α r1)), (2, .int x2), (3, .int x3), (4, .int x4)] [] (k_39 x2 x3 x4 σ)) (x2 : Int32) (x3 : Int32) (x4 : Int32) (s0 : Int32) (σ : St) : RX emI shX α D cA z 6 σ 58 [(0, .ref (α 24)), (1, .ref (α r1)), (2, .int x2), (3, .int x3), (4, .int x4)] [.int s0] (f_X9_bestSet_58 r1 k_39 x2 x3 x4 s0 σ) := by
  unfold f_X9_bestSet_58
  refine rx_istore C [(5, .int s0), (0, .ref (α 24)), (1, .ref (α r1)), (2, .int x2), (3, .int x3), (4, .int x4)] dX9_bestSet_58 (by decide) rfl ?_
  refine rx_aload_n C 1 dX9_bestSet_60 rfl rfl ?_
  refine rx_getC C (k := 0) sx_24 fc_X9 (by decide) 25 rfl lk_X9_9 dX9_bestSet_61 ?_
  refine rx_iload C 5 dX9_bestSet_64 rfl ?_
  refine rx_aload_n C 2 dX9_bestSet_66 rfl rfl ?_
  refine rx_iload C 5 dX9_bestSet_67 rfl ?_
  refine rx_callVi C [.int x4] [.int x4, .ref (α 25)] (m_X4_titleOunces z.l C.inj r1 hr1 x4 σ) mv_X4_titleOunces lk_X9_57 (ld_sh hr1) rfl rfl rfl (Nat.le_of_ble_eq_true rfl) ⟨Nat.le_of_ble_eq_true rfl, Nat.le_of_ble_eq_true rfl⟩ dX9_bestSet_69 (fun q22 => ?_)
  refine rx_iast C (n := 12) sx_25 dX9_bestSet_72 (fun _ => ?_)
  refine rx_lts (fun σ23 => ?_)
  refine rx_aload_n C 1 dX9_bestSet_73 rfl rfl ?_
  refine rx_getC C (k := 1) sx_24 fc_X9 (by decide) 26 rfl lk_X9_15 dX9_bestSet_74 ?_
  refine rx_iload C 5 dX9_bestSet_77 rfl ?_
  refine rx_aload_n C 2 dX9_bestSet_79 rfl rfl ?_
  refine rx_getC C (k := 1) (ld_sh hr1) fc_X4 (by decide) (r1 + 4) rfl lk_X9_37 dX9_bestSet_80 ?_
  refine rx_iload C 5 dX9_bestSet_83 rfl ?_
  refine rx_iconst C dX9_bestSet_85 ic_0 ?_
  refine rx_callVi C [.int x4, .int (0 : Int32)] [.int x4, .ref (α 26)] (m_X8_get z.l C.inj (r1 + 4) (ld_4 hr1) x4 (0 : Int32) σ23) mv_X8_get lk_X9_61 (ro_sh (ld_4 hr1)) rfl rfl rfl (Nat.le_of_ble_eq_true rfl) ⟨Nat.le_of_ble_eq_true rfl, Nat.le_of_ble_eq_true rfl⟩ dX9_bestSet_86 (fun q24 => ?_)
  refine rx_iast C (n := 12) sx_26 dX9_bestSet_89 (fun _ => ?_)
  refine rx_lts (fun σ25 => ?_)
  refine rx_aload_n C 1 dX9_bestSet_90 rfl rfl ?_
  refine rx_getC C (k := 2) sx_24 fc_X9 (by decide) 27 rfl lk_X9_18 dX9_bestSet_91 ?_
  refine rx_iload C 5 dX9_bestSet_94 rfl ?_
  refine rx_aload_n C 1 dX9_bestSet_96 rfl rfl ?_
  refine rx_getC C (k := 2) sx_24 fc_X9 (by decide) 27 rfl lk_X9_18 dX9_bestSet_97 ?_
  refine rx_iload C 5 dX9_bestSet_100 rfl ?_
  refine rx_iconst C dX9_bestSet_102 ic_1 ?_
  refine rx_iadd C dX9_bestSet_103 ?_
  refine rx_iald C (n := 13) sx_27 dX9_bestSet_104 (fun _ => ?_)
  refine rx_iload C 0 dX9_bestSet_105 rfl ?_
  refine rx_if_eq C (tgt := 120) dX9_bestSet_107 (by decide) (fun _ => ?_) (fun _ => ?_)
  · refine rx_iconst C dX9_bestSet_120 ic_0 ?_
    exact RX.loc (w_X9_bestSet_121 C r1 hr1 k_39 hk_39 x2 x3 x4 (0 : Int32) (gI σ25 27 (ix (x4 + (1 : Int32)))) x4 σ25) [1, 2, 3, 4, 5] rfl
  · refine rx_aload_n C 1 dX9_bestSet_110 rfl rfl ?_
    refine rx_getC C (k := 1) sx_24 fc_X9 (by decide) 26 rfl lk_X9_15 dX9_bestSet_111 ?_
    refine rx_iload C 5 dX9_bestSet_114 rfl ?_
    refine rx_iald C (n := 12) sx_26 dX9_bestSet_116 (fun _ => ?_)
    refine rx_goto C (tgt := 121) dX9_bestSet_117 (by decide) ?_
    exact RX.loc (w_X9_bestSet_121 C r1 hr1 k_39 hk_39 x2 x3 x4 (gI σ25 26 (ix x4)) (gI σ25 27 (ix (x4 + (1 : Int32)))) x4 σ25) [1, 2, 3, 4, 5] rfl
set_option maxRecDepth 100000 in
set_option maxHeartbeats 4000000 in
theorem w_X9_bestSet_39 {α : Nat → Nat} {D : va_G} {cA : Nat → ClassId} {z : Cz} (C : CX shX α D cA z RX9 cX9_bestSet 6 (some .int) 27 643) (r1 : Nat) (hr1 : isLand r1) : ∀ (n : Nat) (x2 : Int32) (x3 : Int32) (x4 : Int32) (σ : St), RX emI shX α D cA z 6 σ 39 [(0, .ref (α 24)), (1, .ref (α r1)), (2, .int x2), (3, .int x3), (4, .int x4)] [] (f_X9_bestSet_39 r1 n x2 x3 x4 σ) := by
  intro n
  induction n with
  | zero => intros; exact rx_none
  | succ n hk_39 =>
    intro x2 x3 x4 σ
    rw [f_X9_bestSet_39.eq_2]
    refine rx_iload C 4 dX9_bestSet_39 rfl ?_
    refine rx_if_lt C (tgt := 129) dX9_bestSet_41 (by decide) (fun _ => ?_) (fun _ => ?_)
    · refine rx_aload_n C 0 dX9_bestSet_129 rfl rfl ?_
      refine rx_iconst C dX9_bestSet_130 ic_0 ?_
      refine rx_putI C (k := 9) sx_24 fc_X9 (by decide) rfl lk_X9_64 rfl ⟨rfl, rfl⟩ dX9_bestSet_131 ?_
      refine rx_lts (fun σ19 => ?_)
      refine rx_aload_n C 0 dX9_bestSet_134 rfl rfl ?_
      refine rx_iconst C dX9_bestSet_135 ic_0 ?_
      refine rx_putI C (k := 10) sx_24 fc_X9 (by decide) rfl lk_X9_67 rfl ⟨rfl, rfl⟩ dX9_bestSet_136 ?_
      refine rx_lts (fun σ20 => ?_)
      refine rx_aload_n C 0 dX9_bestSet_139 rfl rfl ?_
      refine rx_iconst C dX9_bestSet_140 ic_0 ?_
      refine rx_iconst C dX9_bestSet_141 ic_0 ?_
      refine rx_iconst C dX9_bestSet_142 ic_0 ?_
      refine rx_iload_n C 3 dX9_bestSet_143 rfl rfl ?_
      refine rx_callVv C [.int (0 : Int32), .int (0 : Int32), .int (0 : Int32), .int x3] [] (m_X9_choose z.l C.inj 24 (0 : Int32) (0 : Int32) (0 : Int32) x3 σ20) mv_X9_choose lk_X9_70 sx_24 rfl rfl rfl (Nat.le_of_ble_eq_true rfl) ⟨Nat.le_of_ble_eq_true rfl, Nat.le_of_ble_eq_true rfl⟩ dX9_bestSet_144 (fun q21 => ?_)
      refine rx_aload_n C 0 dX9_bestSet_147 rfl rfl ?_
      refine rx_getI C (k := 9) sx_24 fc_X9 (by decide) rfl lk_X9_64 dX9_bestSet_148 ?_
      exact rx_iret C dX9_bestSet_151
    · refine rx_iload_n C 2 dX9_bestSet_44 rfl rfl ?_
      refine rx_iload C 4 dX9_bestSet_45 rfl ?_
      refine rx_ishr C dX9_bestSet_47 ?_
      refine rx_iconst C dX9_bestSet_48 ic_1 ?_
      refine rx_iand C dX9_bestSet_49 ?_
      refine rx_if_eq C (tgt := 57) dX9_bestSet_50 (by decide) (fun _ => ?_) (fun _ => ?_)
      · refine rx_iconst C dX9_bestSet_57 ic_0 ?_
        exact RX.loc (w_X9_bestSet_58 C r1 hr1 (f_X9_bestSet_39 r1 n) hk_39 x2 x3 x4 (0 : Int32) σ) [0, 1, 2, 3, 4] rfl
      · refine rx_iconst C dX9_bestSet_53 ic_1 ?_
        refine rx_goto C (tgt := 58) dX9_bestSet_54 (by decide) ?_
        exact RX.loc (w_X9_bestSet_58 C r1 hr1 (f_X9_bestSet_39 r1 n) hk_39 x2 x3 x4 (1 : Int32) σ) [0, 1, 2, 3, 4] rfl
set_option maxRecDepth 100000 in
set_option maxHeartbeats 4000000 in
theorem w_X9_bestSet_e {α : Nat → Nat} {D : va_G} {cA : Nat → ClassId} {z : Cz} (C : CX shX α D cA z RX9 cX9_bestSet 6 (some .int) 27 643) (r1 : Nat) (hr1 : isLand r1) (x2 : Int32) (x3 : Int32) (σ : St) : RX emI shX α D cA z 6 σ 0 [(0, .ref (α 24)), (1, .ref (α r1)), (2, .int x2), (3, .int x3)] [] (f_X9_bestSet r1 x2 x3 σ) := by
  unfold f_X9_bestSet
  refine rx_aload_n C 0 dX9_bestSet_0 rfl rfl ?_
  refine rx_iload_n C 2 dX9_bestSet_1 rfl rfl ?_
  refine rx_putI C (k := 7) sx_24 fc_X9 (by decide) rfl lk_X9_33 rfl ⟨rfl, rfl⟩ dX9_bestSet_2 ?_
  refine rx_lts (fun σ14 => ?_)
  refine rx_aload_n C 0 dX9_bestSet_5 rfl rfl ?_
  refine rx_bipush C dX9_bestSet_6 bp_12 ?_
  refine rx_aload_n C 1 dX9_bestSet_8 rfl rfl ?_
  refine rx_getC C (k := 1) (ld_sh hr1) fc_X4 (by decide) (r1 + 4) rfl lk_X9_37 dX9_bestSet_9 ?_
  refine rx_getI C (k := 4) (ro_sh (ld_4 hr1)) fc_X8 (by decide) rfl lk_X9_43 dX9_bestSet_12 ?_
  refine rx_callSi C [.int (12 : Int32), .int (gI σ14 (r1 + 4) 4)] [.ref (α 24)] (m_J9_min_7cf53 z.l C.inj (12 : Int32) (gI σ14 (r1 + 4) 4) σ14) ms_J9_min_7cf53 lk_X9_48 rfl rfl (Nat.le_of_ble_eq_true rfl) ⟨Nat.le_of_ble_eq_true rfl, Nat.le_of_ble_eq_true rfl⟩ dX9_bestSet_15 (fun q15 => ?_)
  refine rx_putI C (k := 8) sx_24 fc_X9 (by decide) rfl lk_X9_54 rfl ⟨rfl, rfl⟩ dX9_bestSet_18 ?_
  refine rx_lts (fun σ16 => ?_)
  refine rx_aload_n C 0 dX9_bestSet_21 rfl rfl ?_
  refine rx_getC C (k := 2) sx_24 fc_X9 (by decide) 27 rfl lk_X9_18 dX9_bestSet_22 ?_
  refine rx_aload_n C 0 dX9_bestSet_25 rfl rfl ?_
  refine rx_getI C (k := 8) sx_24 fc_X9 (by decide) rfl lk_X9_54 dX9_bestSet_26 ?_
  refine rx_iconst C dX9_bestSet_29 ic_0 ?_
  refine rx_iast C (n := 13) sx_27 dX9_bestSet_30 (fun _ => ?_)
  refine rx_lts (fun σ17 => ?_)
  refine rx_aload_n C 0 dX9_bestSet_31 rfl rfl ?_
  refine rx_getI C (k := 8) sx_24 fc_X9 (by decide) rfl lk_X9_54 dX9_bestSet_32 ?_
  refine rx_iconst C dX9_bestSet_35 ic_1 ?_
  refine rx_isub C dX9_bestSet_36 ?_
  refine rx_lti (fun w18 => ?_)
  refine rx_istore C [(4, .int w18), (0, .ref (α 24)), (1, .ref (α r1)), (2, .int x2), (3, .int x3)] dX9_bestSet_37 (by decide) rfl ?_
  exact RX.loc (w_X9_bestSet_39 C r1 hr1 FU x2 x3 w18 σ17) [1, 2, 3, 4, 0] rfl
theorem m_X9_bestSet (l : Launch) {α : Nat → Nat} {D : va_G} {cA : Nat → ClassId} (hin : inj shX.length α) (r1 : Nat) (hr1 : isLand r1) (x2 : Int32) (x3 : Int32) (σ : St) : CT shX l yX9_bestSet cX9_bestSet 6 (some .int) 27 643 emI α D cA [.ref (α 24), .ref (α r1), .int x2, .int x3] σ (f_X9_bestSet r1 x2 x3 σ) := ct_of rfl (Nat.le_of_ble_eq_true rfl) hin (fun z _ C => w_X9_bestSet_e C r1 hr1 x2 x3 σ)
set_option maxRecDepth 100000 in
set_option maxHeartbeats 4000000 in
theorem w_X1_inherit_27 {α : Nat → Nat} {D : va_G} {cA : Nat → ClassId} {z : Cz} (C : CX shX α D cA z RX1 cX1_inherit 7 (some .int) 28 668) (σ : St) : RX emI shX α D cA z 7 σ 27 [] [] (f_X1_inherit_27 σ) := by
  unfold f_X1_inherit_27
  refine rx_iconst C dX1_inherit_27 ic_m1 ?_
  exact rx_iret C dX1_inherit_28
set_option maxRecDepth 100000 in
set_option maxHeartbeats 4000000 in
theorem w_X1_inherit_169 {α : Nat → Nat} {D : va_G} {cA : Nat → ClassId} {z : Cz} (C : CX shX α D cA z RX1 cX1_inherit 7 (some .int) 28 668) (k_94 : Int32 → Int32 → Int32 → Int32 → St → Option (Int32 × St)) (hk_94 : ∀ (x1 : Int32) (x2 : Int32) (x5 : Int32) (x6 : Int32) (σ : St), RX emI shX α D cA z 7 σ 94 [(0, .ref (α 18)), (1, .int x1), (2, .int x2), (5, .int x5), (6, .int x6)] [] (k_94 x1 x2 x5 x6 σ)) (x1 : Int32) (x2 : Int32) (x5 : Int32) (x6 : Int32) (σ : St) : RX emI shX α D cA z 7 σ 169 [(0, .ref (α 18)), (1, .int x1), (2, .int x2), (5, .int x5), (6, .int x6)] [] (f_X1_inherit_169 k_94 x1 x2 x5 x6 σ) := by
  unfold f_X1_inherit_169
  refine rx_iinc C (k0 := 4) (v := x6 + (1 : Int32)) [(6, .int (x6 + (1 : Int32))), (0, .ref (α 18)), (1, .int x1), (2, .int x2), (5, .int x5)] dX1_inherit_169 rfl (congrArg _ ic_1) (by decide) rfl ?_
  refine rx_goto C (tgt := 94) dX1_inherit_172 (by decide) ?_
  exact RX.loc (hk_94 x1 x2 x5 (x6 + (1 : Int32)) σ) [1, 2, 3, 4, 0] rfl
set_option maxRecDepth 100000 in
set_option maxHeartbeats 4000000 in
theorem w_X1_inherit_94 {α : Nat → Nat} {D : va_G} {cA : Nat → ClassId} {z : Cz} (C : CX shX α D cA z RX1 cX1_inherit 7 (some .int) 28 668) : ∀ (n : Nat) (x1 : Int32) (x2 : Int32) (x5 : Int32) (x6 : Int32) (σ : St), RX emI shX α D cA z 7 σ 94 [(0, .ref (α 18)), (1, .int x1), (2, .int x2), (5, .int x5), (6, .int x6)] [] (f_X1_inherit_94 n x1 x2 x5 x6 σ) := by
  intro n
  induction n with
  | zero => intros; exact rx_none
  | succ n hk_94 =>
    intro x1 x2 x5 x6 σ
    rw [f_X1_inherit_94.eq_2]
    refine rx_iload C 4 dX1_inherit_94 rfl ?_
    refine rx_aload_n C 0 dX1_inherit_96 rfl rfl ?_
    refine rx_getC C (k := 0) sx_18 fc_X1 (by decide) 6 rfl lk_X1_9 dX1_inherit_97 ?_
    refine rx_getR C (k := 0) sx_6 fc_X2 (by decide) rfl lk_X1_85 dX1_inherit_100 ?_
    refine rx_ltr (fun g30 => ?_)
    refine rx_if (fun hg30 => ?_) (fun _ => rx_none)
    refine rx_getC C (k := 1) (ld_sh (landB_is hg30)) fc_X4 (by decide) (g30 + 4) rfl lk_X1_137 dX1_inherit_103 ?_
    refine rx_getI C (k := 4) (ro_sh (ld_4 (landB_is hg30))) fc_X8 (by decide) rfl lk_X1_42 dX1_inherit_106 ?_
    refine rx_icmp_ge C (tgt := 175) dX1_inherit_109 (by decide) (fun _ => ?_) (fun _ => ?_)
    · refine rx_aload_n C 0 dX1_inherit_175 rfl rfl ?_
      refine rx_getC C (k := 0) sx_18 fc_X1 (by decide) 6 rfl lk_X1_9 dX1_inherit_176 ?_
      refine rx_iload_n C 1 dX1_inherit_179 rfl rfl ?_
      refine rx_callVv C [.int x1] [] (m_X2_pourLoose z.l C.inj x1 σ) mv_X2_pourLoose lk_X1_164 sx_6 rfl rfl rfl (Nat.le_of_ble_eq_true rfl) ⟨Nat.le_of_ble_eq_true rfl, Nat.le_of_ble_eq_true rfl⟩ dX1_inherit_180 (fun q31 => ?_)
      refine rx_aload_n C 0 dX1_inherit_183 rfl rfl ?_
      refine rx_bipush C dX1_inherit_184 bp_8 ?_
      refine rx_iload_n C 1 dX1_inherit_186 rfl rfl ?_
      refine rx_iload_n C 2 dX1_inherit_187 rfl rfl ?_
      refine rx_aload_n C 0 dX1_inherit_188 rfl rfl ?_
      refine rx_getC C (k := 0) sx_18 fc_X1 (by decide) 6 rfl lk_X1_9 dX1_inherit_189 ?_
      refine rx_getR C (k := 0) sx_6 fc_X2 (by decide) rfl lk_X1_85 dX1_inherit_192 ?_
      refine rx_ltr (fun g32 => ?_)
      refine rx_if (fun hg32 => ?_) (fun _ => rx_none)
      refine rx_iload C 3 dX1_inherit_195 rfl ?_
      refine rx_callVi C [.int x5] [.int x2, .int x1, .int (8 : Int32), .ref (α 18)] (m_X4_ouncesOfSet z.l C.inj g32 (landB_is hg32) x5 q31.2) mv_X4_ouncesOfSet lk_X1_167 (ld_sh (landB_is hg32)) rfl rfl rfl (Nat.le_of_ble_eq_true rfl) ⟨Nat.le_of_ble_eq_true rfl, Nat.le_of_ble_eq_true rfl⟩ dX1_inherit_197 (fun q33 => ?_)
      refine rx_callVv C [.int (8 : Int32), .int x1, .int x2, .int q33.1] [] (m_X1_note z.l C.inj (8 : Int32) x1 x2 q33.1 q33.2) mv_X1_note lk_X1_67 sx_18 rfl rfl rfl (Nat.le_of_ble_eq_true rfl) ⟨Nat.le_of_ble_eq_true rfl, Nat.le_of_ble_eq_true rfl⟩ dX1_inherit_200 (fun q34 => ?_)
      refine rx_iload C 3 dX1_inherit_203 rfl ?_
      exact rx_iret C dX1_inherit_205
    · refine rx_aload_n C 0 dX1_inherit_112 rfl rfl ?_
      refine rx_getC C (k := 0) sx_18 fc_X1 (by decide) 6 rfl lk_X1_9 dX1_inherit_113 ?_
      refine rx_iload_n C 1 dX1_inherit_116 rfl rfl ?_
      refine rx_iload C 4 dX1_inherit_117 rfl ?_
      refine rx_callVi C [.int x1, .int x6] [] (m_X2_bears z.l C.inj x1 x6 σ) mv_X2_bears lk_X1_75 sx_6 rfl rfl rfl (Nat.le_of_ble_eq_true rfl) ⟨Nat.le_of_ble_eq_true rfl, Nat.le_of_ble_eq_true rfl⟩ dX1_inherit_119 (fun q35 => ?_)
      refine rx_if_eq C (tgt := 169) dX1_inherit_122 (by decide) (fun _ => ?_) (fun _ => ?_)
      · exact RX.loc (w_X1_inherit_169 C (f_X1_inherit_94 n) hk_94 x1 x2 x5 x6 q35.2) [0, 1, 2, 3, 4] rfl
      · refine rx_aload_n C 0 dX1_inherit_125 rfl rfl ?_
        refine rx_getC C (k := 0) sx_18 fc_X1 (by decide) 6 rfl lk_X1_9 dX1_inherit_126 ?_
        refine rx_iload_n C 1 dX1_inherit_129 rfl rfl ?_
        refine rx_iload C 4 dX1_inherit_130 rfl ?_
        refine rx_callVv C [.int x1, .int x6] [] (m_X2_go z.l C.inj x1 x6 q35.2) mv_X2_go lk_X1_79 sx_6 rfl rfl rfl (Nat.le_of_ble_eq_true rfl) ⟨Nat.le_of_ble_eq_true rfl, Nat.le_of_ble_eq_true rfl⟩ dX1_inherit_132 (fun q36 => ?_)
        refine rx_iload C 3 dX1_inherit_135 rfl ?_
        refine rx_iload C 4 dX1_inherit_137 rfl ?_
        refine rx_ishr C dX1_inherit_139 ?_
        refine rx_iconst C dX1_inherit_140 ic_1 ?_
        refine rx_iand C dX1_inherit_141 ?_
        refine rx_if_eq C (tgt := 158) dX1_inherit_142 (by decide) (fun _ => ?_) (fun _ => ?_)
        · refine rx_aload_n C 0 dX1_inherit_158 rfl rfl ?_
          refine rx_getC C (k := 0) sx_18 fc_X1 (by decide) 6 rfl lk_X1_9 dX1_inherit_159 ?_
          refine rx_iload C 4 dX1_inherit_162 rfl ?_
          refine rx_bipush C dX1_inherit_164 bp_8 ?_
          refine rx_callVv C [.int x6, .int (8 : Int32)] [] (m_X2_scatter z.l C.inj x6 (8 : Int32) q36.2) mv_X2_scatter lk_X1_82 sx_6 rfl rfl rfl (Nat.le_of_ble_eq_true rfl) ⟨Nat.le_of_ble_eq_true rfl, Nat.le_of_ble_eq_true rfl⟩ dX1_inherit_166 (fun q37 => ?_)
          exact RX.loc (w_X1_inherit_169 C (f_X1_inherit_94 n) hk_94 x1 x2 x5 x6 q37.2) [0, 1, 2, 3, 4] rfl
        · refine rx_aload_n C 0 dX1_inherit_145 rfl rfl ?_
          refine rx_getC C (k := 0) sx_18 fc_X1 (by decide) 6 rfl lk_X1_9 dX1_inherit_146 ?_
          refine rx_iload_n C 2 dX1_inherit_149 rfl rfl ?_
          refine rx_iload C 4 dX1_inherit_150 rfl ?_
          refine rx_callVv C [.int x2, .int x6] [] (m_X2_come z.l C.inj x2 x6 q36.2) mv_X2_come lk_X1_64 sx_6 rfl rfl rfl (Nat.le_of_ble_eq_true rfl) ⟨Nat.le_of_ble_eq_true rfl, Nat.le_of_ble_eq_true rfl⟩ dX1_inherit_152 (fun q38 => ?_)
          refine rx_goto C (tgt := 169) dX1_inherit_155 (by decide) ?_
          exact RX.loc (w_X1_inherit_169 C (f_X1_inherit_94 n) hk_94 x1 x2 x5 x6 q38.2) [0, 1, 2, 3, 4] rfl
set_option maxRecDepth 100000 in
set_option maxHeartbeats 4000000 in
theorem w_X1_inherit_e {α : Nat → Nat} {D : va_G} {cA : Nat → ClassId} {z : Cz} (C : CX shX α D cA z RX1 cX1_inherit 7 (some .int) 28 668) (x1 : Int32) (x2 : Int32) (σ : St) : RX emI shX α D cA z 7 σ 0 [(0, .ref (α 18)), (1, .int x1), (2, .int x2)] [] (f_X1_inherit x1 x2 σ) := by
  unfold f_X1_inherit
  refine rx_aload_n C 0 dX1_inherit_0 rfl rfl ?_
  refine rx_getC C (k := 0) sx_18 fc_X1 (by decide) 6 rfl lk_X1_9 dX1_inherit_1 ?_
  refine rx_iload_n C 1 dX1_inherit_4 rfl rfl ?_
  refine rx_callVi C [.int x1] [] (m_X2_isPerson z.l C.inj x1 σ) mv_X2_isPerson lk_X1_94 sx_6 rfl rfl rfl (Nat.le_of_ble_eq_true rfl) ⟨Nat.le_of_ble_eq_true rfl, Nat.le_of_ble_eq_true rfl⟩ dX1_inherit_5 (fun q20 => ?_)
  refine rx_if_eq C (tgt := 27) dX1_inherit_8 (by decide) (fun _ => ?_) (fun _ => ?_)
  · exact RX.loc (w_X1_inherit_27 C q20.2) [] rfl
  · refine rx_aload_n C 0 dX1_inherit_11 rfl rfl ?_
    refine rx_getC C (k := 0) sx_18 fc_X1 (by decide) 6 rfl lk_X1_9 dX1_inherit_12 ?_
    refine rx_iload_n C 2 dX1_inherit_15 rfl rfl ?_
    refine rx_callVi C [.int x2] [] (m_X2_isPerson z.l C.inj x2 q20.2) mv_X2_isPerson lk_X1_94 sx_6 rfl rfl rfl (Nat.le_of_ble_eq_true rfl) ⟨Nat.le_of_ble_eq_true rfl, Nat.le_of_ble_eq_true rfl⟩ dX1_inherit_16 (fun q21 => ?_)
    refine rx_if_eq C (tgt := 27) dX1_inherit_19 (by decide) (fun _ => ?_) (fun _ => ?_)
    · exact RX.loc (w_X1_inherit_27 C q21.2) [] rfl
    · refine rx_iload_n C 1 dX1_inherit_22 rfl rfl ?_
      refine rx_iload_n C 2 dX1_inherit_23 rfl rfl ?_
      refine rx_icmp_ne C (tgt := 29) dX1_inherit_24 (by decide) (fun _ => ?_) (fun _ => ?_)
      · exact RX.loc (w_X1_inherit_27 C q21.2) [] rfl
      · refine rx_iconst C dX1_inherit_29 ic_0 ?_
        refine rx_aload_n C 0 dX1_inherit_30 rfl rfl ?_
        refine rx_getC C (k := 0) sx_18 fc_X1 (by decide) 6 rfl lk_X1_9 dX1_inherit_31 ?_
        refine rx_iload_n C 2 dX1_inherit_34 rfl rfl ?_
        refine rx_callVi C [.int x2] [.int (0 : Int32)] (m_X2_limitOf z.l C.inj x2 q21.2) mv_X2_limitOf lk_X1_118 sx_6 rfl rfl rfl (Nat.le_of_ble_eq_true rfl) ⟨Nat.le_of_ble_eq_true rfl, Nat.le_of_ble_eq_true rfl⟩ dX1_inherit_35 (fun q22 => ?_)
        refine rx_aload_n C 0 dX1_inherit_38 rfl rfl ?_
        refine rx_getC C (k := 0) sx_18 fc_X1 (by decide) 6 rfl lk_X1_9 dX1_inherit_39 ?_
        refine rx_iload_n C 2 dX1_inherit_42 rfl rfl ?_
        refine rx_callVi C [.int x2] [.int q22.1, .int (0 : Int32)] (m_X2_loadOf z.l C.inj x2 q22.2) mv_X2_loadOf lk_X1_71 sx_6 rfl rfl rfl (Nat.le_of_ble_eq_true rfl) ⟨Nat.le_of_ble_eq_true rfl, Nat.le_of_ble_eq_true rfl⟩ dX1_inherit_43 (fun q23 => ?_)
        refine rx_isub C dX1_inherit_46 ?_
        refine rx_callSi C [.int (0 : Int32), .int (q22.1 - q23.1)] [] (m_J9_max_7cf53 z.l C.inj (0 : Int32) (q22.1 - q23.1) q23.2) ms_J9_max_7cf53 lk_X1_150 rfl rfl (Nat.le_of_ble_eq_true rfl) ⟨Nat.le_of_ble_eq_true rfl, Nat.le_of_ble_eq_true rfl⟩ dX1_inherit_47 (fun q24 => ?_)
        refine rx_istore_n C [(3, .int q24.1), (0, .ref (α 18)), (1, .int x1), (2, .int x2)] dX1_inherit_50 rfl (by decide) rfl ?_
        refine rx_aload_n C 1 dX1_inherit_51 rfl rfl ?_
        refine rx_getC C (k := 0) sx_18 fc_X1 (by decide) 6 rfl lk_X1_9 dX1_inherit_52 ?_
        refine rx_iload_n C 2 dX1_inherit_55 rfl rfl ?_
        refine rx_callVi C [.int x1] [] (m_X2_titlesOf z.l C.inj x1 q24.2) mv_X2_titlesOf lk_X1_155 sx_6 rfl rfl rfl (Nat.le_of_ble_eq_true rfl) ⟨Nat.le_of_ble_eq_true rfl, Nat.le_of_ble_eq_true rfl⟩ dX1_inherit_56 (fun q25 => ?_)
        refine rx_aload_n C 1 dX1_inherit_59 rfl rfl ?_
        refine rx_getC C (k := 0) sx_18 fc_X1 (by decide) 6 rfl lk_X1_9 dX1_inherit_60 ?_
        refine rx_iload_n C 3 dX1_inherit_63 rfl rfl ?_
        refine rx_callVi C [.int x2] [.int q25.1] (m_X2_titlesOf z.l C.inj x2 q25.2) mv_X2_titlesOf lk_X1_155 sx_6 rfl rfl rfl (Nat.le_of_ble_eq_true rfl) ⟨Nat.le_of_ble_eq_true rfl, Nat.le_of_ble_eq_true rfl⟩ dX1_inherit_64 (fun q26 => ?_)
        refine rx_iconst C dX1_inherit_67 ic_m1 ?_
        refine rx_ixor C dX1_inherit_68 ?_
        refine rx_iand C dX1_inherit_69 ?_
        refine rx_lti (fun w27 => ?_)
        refine rx_istore C [(4, .int w27), (3, .int q24.1), (0, .ref (α 18)), (1, .int x1), (2, .int x2)] dX1_inherit_70 (by decide) rfl ?_
        refine rx_aload_n C 2 dX1_inherit_72 rfl rfl ?_
        refine rx_getC C (k := 1) sx_18 fc_X1 (by decide) 24 rfl lk_X1_15 dX1_inherit_73 ?_
        refine rx_aload_n C 2 dX1_inherit_76 rfl rfl ?_
        refine rx_getC C (k := 0) sx_18 fc_X1 (by decide) 6 rfl lk_X1_9 dX1_inherit_77 ?_
        refine rx_getR C (k := 0) sx_6 fc_X2 (by decide) rfl lk_X1_85 dX1_inherit_80 ?_
        refine rx_ltr (fun g28 => ?_)
        refine rx_if (fun hg28 => ?_) (fun _ => rx_none)
        refine rx_iload C 0 dX1_inherit_83 rfl ?_
        refine rx_iload_n C 1 dX1_inherit_85 rfl rfl ?_
        refine rx_callVi C [.ref (α g28), .int w27, .int q24.1] [] (m_X9_bestSet z.l C.inj g28 (landB_is hg28) w27 q24.1 q26.2) mv_X9_bestSet lk_X1_158 sx_24 rfl rfl rfl (Nat.le_of_ble_eq_true rfl) ⟨Nat.le_of_ble_eq_true rfl, Nat.le_of_ble_eq_true rfl⟩ dX1_inherit_86 (fun q29 => ?_)
        refine rx_istore C [(5, .int q29.1), (4, .int w27), (3, .int q24.1), (0, .ref (α 18)), (1, .int x1), (2, .int x2)] dX1_inherit_89 (by decide) rfl ?_
        refine rx_iconst C dX1_inherit_91 ic_0 ?_
        refine rx_istore C [(6, .int (0 : Int32)), (5, .int q29.1), (4, .int w27), (3, .int q24.1), (0, .ref (α 18)), (1, .int x1), (2, .int x2)] dX1_inherit_92 (by decide) rfl ?_
        exact RX.loc (w_X1_inherit_94 C FU x1 x2 q29.1 (0 : Int32) q29.2) [4, 5, 6, 1, 0] rfl
theorem m_X1_inherit (l : Launch) {α : Nat → Nat} {D : va_G} {cA : Nat → ClassId} (hin : inj shX.length α) (x1 : Int32) (x2 : Int32) (σ : St) : CT shX l yX1_inherit cX1_inherit 7 (some .int) 28 668 emI α D cA [.ref (α 18), .int x1, .int x2] σ (f_X1_inherit x1 x2 σ) := ct_of rfl (Nat.le_of_ble_eq_true rfl) hin (fun z _ C => w_X1_inherit_e C x1 x2 σ)
