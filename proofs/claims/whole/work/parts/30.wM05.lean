set_option maxRecDepth 100000 in
set_option maxHeartbeats 4000000 in
theorem w_X11_loan_79 {α : Nat → Nat} {D : va_G} {cA : Nat → ClassId} {z : Cz} (C : CX shM α D cA z RX11 cX11_loan 3 (some .int) 2 43) (s0 : Int32) (σ : St) : RX emI shM α D cA z 3 σ 79 [] [.int s0] (f_X11_loan_79 s0 σ) := by
  unfold f_X11_loan_79
  exact rx_iret C dX11_loan_79
set_option maxRecDepth 100000 in
set_option maxHeartbeats 4000000 in
theorem w_X11_loan_e {α : Nat → Nat} {D : va_G} {cA : Nat → ClassId} {z : Cz} (C : CX shM α D cA z RX11 cX11_loan 3 (some .int) 2 43) (x1 : Int32) (x2 : Int32) (σ : St) : RX emI shM α D cA z 3 σ 0 [(0, .ref (α 0)), (1, .int x1), (2, .int x2)] [] (f_X11_loan x1 x2 σ) := by
  unfold f_X11_loan
  refine rx_iload_n C 1 dX11_loan_0 rfl rfl ?_
  refine rx_iconst C dX11_loan_1 ic_0 ?_
  refine rx_aload_n C 0 dX11_loan_2 rfl rfl ?_
  refine rx_getI C (k := 56) sm_0 fc_X11 (by decide) rfl lk_X11_183 dX11_loan_3 ?_
  refine rx_iconst C dX11_loan_6 ic_1 ?_
  refine rx_isub C dX11_loan_7 ?_
  refine rx_callSi C [.int x1, .int (0 : Int32), .int ((gI σ 0 56) - (1 : Int32))] [] (m_X11_is z.l C.inj x1 (0 : Int32) ((gI σ 0 56) - (1 : Int32)) σ) ms_X11_is lk_X11_309 rfl rfl (Nat.le_of_ble_eq_true rfl) ⟨Nat.le_of_ble_eq_true rfl, Nat.le_of_ble_eq_true rfl⟩ dX11_loan_8 (fun q3 => ?_)
  refine rx_if_ne C (tgt := 16) dX11_loan_11 (by decide) (fun _ => ?_) (fun _ => ?_)
  · refine rx_iconst C dX11_loan_14 ic_m1 ?_
    exact rx_iret C dX11_loan_15
  · refine rx_iload_n C 2 dX11_loan_16 rfl rfl ?_
    refine rx_if_ne C (tgt := 29) dX11_loan_17 (by decide) (fun _ => ?_) (fun _ => ?_)
    · refine rx_aload_n C 0 dX11_loan_20 rfl rfl ?_
      refine rx_getC C (k := 57) sm_0 fc_X11 (by decide) 37 rfl lk_X11_186 dX11_loan_21 ?_
      refine rx_iload_n C 1 dX11_loan_24 rfl rfl ?_
      refine rx_iald C (n := 20) sm_37 dX11_loan_25 (fun _ => ?_)
      refine rx_goto C (tgt := 79) dX11_loan_26 (by decide) ?_
      exact RX.loc (w_X11_loan_79 C (gI q3.2 37 (ix x1)) q3.2) [] rfl
    · refine rx_iload_n C 2 dX11_loan_29 rfl rfl ?_
      refine rx_iconst C dX11_loan_30 ic_1 ?_
      refine rx_icmp_ne C (tgt := 43) dX11_loan_31 (by decide) (fun _ => ?_) (fun _ => ?_)
      · refine rx_aload_n C 0 dX11_loan_34 rfl rfl ?_
        refine rx_getC C (k := 58) sm_0 fc_X11 (by decide) 38 rfl lk_X11_189 dX11_loan_35 ?_
        refine rx_iload_n C 1 dX11_loan_38 rfl rfl ?_
        refine rx_iald C (n := 20) sm_38 dX11_loan_39 (fun _ => ?_)
        refine rx_goto C (tgt := 79) dX11_loan_40 (by decide) ?_
        exact RX.loc (w_X11_loan_79 C (gI q3.2 38 (ix x1)) q3.2) [] rfl
      · refine rx_iload_n C 2 dX11_loan_43 rfl rfl ?_
        refine rx_iconst C dX11_loan_44 ic_2 ?_
        refine rx_icmp_ne C (tgt := 57) dX11_loan_45 (by decide) (fun _ => ?_) (fun _ => ?_)
        · refine rx_aload_n C 0 dX11_loan_48 rfl rfl ?_
          refine rx_getC C (k := 59) sm_0 fc_X11 (by decide) 39 rfl lk_X11_192 dX11_loan_49 ?_
          refine rx_iload_n C 1 dX11_loan_52 rfl rfl ?_
          refine rx_iald C (n := 20) sm_39 dX11_loan_53 (fun _ => ?_)
          refine rx_goto C (tgt := 79) dX11_loan_54 (by decide) ?_
          exact RX.loc (w_X11_loan_79 C (gI q3.2 39 (ix x1)) q3.2) [] rfl
        · refine rx_iload_n C 2 dX11_loan_57 rfl rfl ?_
          refine rx_iconst C dX11_loan_58 ic_3 ?_
          refine rx_icmp_ne C (tgt := 78) dX11_loan_59 (by decide) (fun _ => ?_) (fun _ => ?_)
          · refine rx_aload_n C 0 dX11_loan_62 rfl rfl ?_
            refine rx_iload_n C 1 dX11_loan_63 rfl rfl ?_
            refine rx_callVi C [.int x1] [] (m_X11_canBack z.l C.inj x1 q3.2) mv_X11_canBack lk_X11_539 sm_0 rfl rfl rfl (Nat.le_of_ble_eq_true rfl) ⟨Nat.le_of_ble_eq_true rfl, Nat.le_of_ble_eq_true rfl⟩ dX11_loan_64 (fun q4 => ?_)
            refine rx_if_eq C (tgt := 74) dX11_loan_67 (by decide) (fun _ => ?_) (fun _ => ?_)
            · refine rx_iconst C dX11_loan_74 ic_0 ?_
              refine rx_goto C (tgt := 79) dX11_loan_75 (by decide) ?_
              exact RX.loc (w_X11_loan_79 C (0 : Int32) q4.2) [] rfl
            · refine rx_iconst C dX11_loan_70 ic_1 ?_
              refine rx_goto C (tgt := 79) dX11_loan_71 (by decide) ?_
              exact RX.loc (w_X11_loan_79 C (1 : Int32) q4.2) [] rfl
          · refine rx_iconst C dX11_loan_78 ic_m1 ?_
            exact RX.loc (w_X11_loan_79 C (-1 : Int32) q3.2) [] rfl
theorem m_X11_loan (l : Launch) {α : Nat → Nat} {D : va_G} {cA : Nat → ClassId} (hin : inj shM.length α) (x1 : Int32) (x2 : Int32) (σ : St) : CT shM l yX11_loan cX11_loan 3 (some .int) 2 43 emI α D cA [.ref (α 0), .int x1, .int x2] σ (f_X11_loan x1 x2 σ) := ct_of rfl (Nat.le_of_ble_eq_true rfl) hin (fun z _ C => w_X11_loan_e C x1 x2 σ)
set_option maxRecDepth 100000 in
set_option maxHeartbeats 4000000 in
theorem w_X11_drown_58 {α : Nat → Nat} {D : va_G} {cA : Nat → ClassId} {z : Cz} (C : CX shM α D cA z RX11 cX11_drown 4 (some .int) 4 90) : ∀ (n : Nat) (x1 : Int32) (x2 : Int32) (x3 : Int32) (σ : St), RX emI shM α D cA z 4 σ 58 [(0, .ref (α 0)), (1, .int x1), (2, .int x2), (3, .int x3)] [] (f_X11_drown_58 n x1 x2 x3 σ) := by
  intro n
  induction n with
  | zero => intros; exact rx_none
  | succ n hk_58 =>
    intro x1 x2 x3 σ
    rw [f_X11_drown_58.eq_2]
    refine rx_iload_n C 3 dX11_drown_58 rfl rfl ?_
    refine rx_bipush C dX11_drown_59 bp_26 ?_
    refine rx_icmp_ge C (tgt := 82) dX11_drown_61 (by decide) (fun _ => ?_) (fun _ => ?_)
    · refine rx_aload_n C 0 dX11_drown_82 rfl rfl ?_
      refine rx_dup C dX11_drown_83 rfl ?_
      refine rx_getI C (k := 55) sm_0 fc_X11 (by decide) rfl lk_X11_180 dX11_drown_84 ?_
      refine rx_iload_n C 2 dX11_drown_87 rfl rfl ?_
      refine rx_iadd C dX11_drown_88 ?_
      refine rx_putI C (k := 55) sm_0 fc_X11 (by decide) rfl lk_X11_180 rfl ⟨rfl, rfl⟩ dX11_drown_89 ?_
      refine rx_lts (fun σ12 => ?_)
      refine rx_aload_n C 0 dX11_drown_92 rfl rfl ?_
      refine rx_bipush C dX11_drown_93 bp_6 ?_
      refine rx_iload_n C 1 dX11_drown_95 rfl rfl ?_
      refine rx_iconst C dX11_drown_96 ic_m1 ?_
      refine rx_iload_n C 2 dX11_drown_97 rfl rfl ?_
      refine rx_callVv C [.int (6 : Int32), .int x1, .int (-1 : Int32), .int x2] [] (m_X11_notes z.l C.inj (6 : Int32) x1 (-1 : Int32) x2 σ12) mv_X11_notes lk_X11_517 sm_0 rfl rfl rfl (Nat.le_of_ble_eq_true rfl) ⟨Nat.le_of_ble_eq_true rfl, Nat.le_of_ble_eq_true rfl⟩ dX11_drown_98 (fun q13 => ?_)
      refine rx_iload_n C 2 dX11_drown_101 rfl rfl ?_
      exact rx_iret C dX11_drown_102
    · refine rx_aload_n C 0 dX11_drown_64 rfl rfl ?_
      refine rx_getC C (k := 54) sm_0 fc_X11 (by decide) 36 rfl lk_X11_177 dX11_drown_65 ?_
      refine rx_bipush C dX11_drown_68 bp_26 ?_
      refine rx_iload_n C 1 dX11_drown_70 rfl rfl ?_
      refine rx_imul C dX11_drown_71 ?_
      refine rx_iload_n C 3 dX11_drown_72 rfl rfl ?_
      refine rx_iadd C dX11_drown_73 ?_
      refine rx_iconst C dX11_drown_74 ic_0 ?_
      refine rx_iast C (n := 234) sm_36 dX11_drown_75 (fun _ => ?_)
      refine rx_lts (fun σ14 => ?_)
      refine rx_iinc C (k0 := 3) (v := x3 + (1 : Int32)) [(3, .int (x3 + (1 : Int32))), (0, .ref (α 0)), (1, .int x1), (2, .int x2)] dX11_drown_76 rfl (congrArg _ ic_1) (by decide) rfl ?_
      refine rx_goto C (tgt := 58) dX11_drown_79 (by decide) ?_
      exact RX.loc (hk_58 x1 x2 (x3 + (1 : Int32)) σ14) [1, 2, 3, 0] rfl
set_option maxRecDepth 100000 in
set_option maxHeartbeats 4000000 in
theorem w_X11_drown_50 {α : Nat → Nat} {D : va_G} {cA : Nat → ClassId} {z : Cz} (C : CX shM α D cA z RX11 cX11_drown 4 (some .int) 4 90) (k_22 : Int32 → Int32 → Int32 → St → Option (Int32 × St)) (hk_22 : ∀ (x1 : Int32) (x2 : Int32) (x3 : Int32) (σ : St), RX emI shM α D cA z 4 σ 22 [(0, .ref (α 0)), (1, .int x1), (2, .int x2), (3, .int x3)] [] (k_22 x1 x2 x3 σ)) (x1 : Int32) (x2 : Int32) (x3 : Int32) (σ : St) : RX emI shM α D cA z 4 σ 50 [(0, .ref (α 0)), (1, .int x1), (2, .int x2), (3, .int x3)] [] (f_X11_drown_50 k_22 x1 x2 x3 σ) := by
  unfold f_X11_drown_50
  refine rx_iinc C (k0 := 3) (v := x3 + (1 : Int32)) [(3, .int (x3 + (1 : Int32))), (0, .ref (α 0)), (1, .int x1), (2, .int x2)] dX11_drown_50 rfl (congrArg _ ic_1) (by decide) rfl ?_
  refine rx_goto C (tgt := 22) dX11_drown_53 (by decide) ?_
  exact RX.loc (hk_22 x1 x2 (x3 + (1 : Int32)) σ) [1, 2, 3, 0] rfl
set_option maxRecDepth 100000 in
set_option maxHeartbeats 4000000 in
theorem w_X11_drown_22 {α : Nat → Nat} {D : va_G} {cA : Nat → ClassId} {z : Cz} (C : CX shM α D cA z RX11 cX11_drown 4 (some .int) 4 90) : ∀ (n : Nat) (x1 : Int32) (x2 : Int32) (x3 : Int32) (σ : St), RX emI shM α D cA z 4 σ 22 [(0, .ref (α 0)), (1, .int x1), (2, .int x2), (3, .int x3)] [] (f_X11_drown_22 n x1 x2 x3 σ) := by
  intro n
  induction n with
  | zero => intros; exact rx_none
  | succ n hk_22 =>
    intro x1 x2 x3 σ
    rw [f_X11_drown_22.eq_2]
    refine rx_iload_n C 3 dX11_drown_22 rfl rfl ?_
    refine rx_aload_n C 0 dX11_drown_23 rfl rfl ?_
    refine rx_getC C (k := 20) sm_0 fc_X11 (by decide) 9 rfl lk_X11_73 dX11_drown_24 ?_
    refine rx_aload_n C 0 dX11_drown_27 rfl rfl ?_
    refine rx_getI C (k := 12) sm_0 fc_X11 (by decide) rfl lk_X11_48 dX11_drown_28 ?_
    refine rx_iald C (n := 2) sm_9 dX11_drown_31 (fun _ => ?_)
    refine rx_icmp_ge C (tgt := 56) dX11_drown_32 (by decide) (fun _ => ?_) (fun _ => ?_)
    · refine rx_iconst C dX11_drown_56 ic_0 ?_
      refine rx_istore_n C [(3, .int (0 : Int32)), (0, .ref (α 0)), (1, .int x1), (2, .int x2)] dX11_drown_57 rfl (by decide) rfl ?_
      exact RX.loc (w_X11_drown_58 C FU x1 x2 (0 : Int32) σ) [1, 2, 3, 0] rfl
    · refine rx_aload_n C 0 dX11_drown_35 rfl rfl ?_
      refine rx_iload_n C 1 dX11_drown_36 rfl rfl ?_
      refine rx_iload_n C 3 dX11_drown_37 rfl rfl ?_
      refine rx_callVi C [.int x1, .int x3] [] (m_X11_hasTitle z.l C.inj x1 x3 σ) mv_X11_hasTitle lk_X11_470 sm_0 rfl rfl rfl (Nat.le_of_ble_eq_true rfl) ⟨Nat.le_of_ble_eq_true rfl, Nat.le_of_ble_eq_true rfl⟩ dX11_drown_38 (fun q15 => ?_)
      refine rx_if_eq C (tgt := 50) dX11_drown_41 (by decide) (fun _ => ?_) (fun _ => ?_)
      · exact RX.loc (w_X11_drown_50 C (f_X11_drown_22 n) hk_22 x1 x2 x3 q15.2) [0, 1, 2, 3] rfl
      · refine rx_aload_n C 0 dX11_drown_44 rfl rfl ?_
        refine rx_iload_n C 1 dX11_drown_45 rfl rfl ?_
        refine rx_iload_n C 3 dX11_drown_46 rfl rfl ?_
        refine rx_callVv C [.int x1, .int x3] [] (m_X11_goes z.l C.inj x1 x3 q15.2) mv_X11_goes lk_X11_527 sm_0 rfl rfl rfl (Nat.le_of_ble_eq_true rfl) ⟨Nat.le_of_ble_eq_true rfl, Nat.le_of_ble_eq_true rfl⟩ dX11_drown_47 (fun q16 => ?_)
        exact RX.loc (w_X11_drown_50 C (f_X11_drown_22 n) hk_22 x1 x2 x3 q16.2) [0, 1, 2, 3] rfl
set_option maxRecDepth 100000 in
set_option maxHeartbeats 4000000 in
theorem w_X11_drown_e {α : Nat → Nat} {D : va_G} {cA : Nat → ClassId} {z : Cz} (C : CX shM α D cA z RX11 cX11_drown 4 (some .int) 4 90) (x1 : Int32) (σ : St) : RX emI shM α D cA z 4 σ 0 [(0, .ref (α 0)), (1, .int x1)] [] (f_X11_drown x1 σ) := by
  unfold f_X11_drown
  refine rx_aload_n C 0 dX11_drown_0 rfl rfl ?_
  refine rx_iload_n C 1 dX11_drown_1 rfl rfl ?_
  refine rx_callVi C [.int x1] [] (m_X11_isPerson z.l C.inj x1 σ) mv_X11_isPerson lk_X11_483 sm_0 rfl rfl rfl (Nat.le_of_ble_eq_true rfl) ⟨Nat.le_of_ble_eq_true rfl, Nat.le_of_ble_eq_true rfl⟩ dX11_drown_2 (fun q9 => ?_)
  refine rx_if_ne C (tgt := 14) dX11_drown_5 (by decide) (fun _ => ?_) (fun _ => ?_)
  · refine rx_aload_n C 0 dX11_drown_8 rfl rfl ?_
    refine rx_iconst C dX11_drown_9 ic_3 ?_
    refine rx_callVi C [.int (3 : Int32)] [] (m_X11_refuses z.l C.inj (3 : Int32) q9.2) mv_X11_refuses lk_X11_234 sm_0 rfl rfl rfl (Nat.le_of_ble_eq_true rfl) ⟨Nat.le_of_ble_eq_true rfl, Nat.le_of_ble_eq_true rfl⟩ dX11_drown_10 (fun q10 => ?_)
    exact rx_iret C dX11_drown_13
  · refine rx_aload_n C 0 dX11_drown_14 rfl rfl ?_
    refine rx_iload_n C 1 dX11_drown_15 rfl rfl ?_
    refine rx_callVi C [.int x1] [] (m_X11_loadOf z.l C.inj x1 q9.2) mv_X11_loadOf lk_X11_489 sm_0 rfl rfl rfl (Nat.le_of_ble_eq_true rfl) ⟨Nat.le_of_ble_eq_true rfl, Nat.le_of_ble_eq_true rfl⟩ dX11_drown_16 (fun q11 => ?_)
    refine rx_istore_n C [(2, .int q11.1), (0, .ref (α 0)), (1, .int x1)] dX11_drown_19 rfl (by decide) rfl ?_
    refine rx_iconst C dX11_drown_20 ic_0 ?_
    refine rx_istore_n C [(3, .int (0 : Int32)), (2, .int q11.1), (0, .ref (α 0)), (1, .int x1)] dX11_drown_21 rfl (by decide) rfl ?_
    exact RX.loc (w_X11_drown_22 C FU x1 q11.1 (0 : Int32) q11.2) [2, 3, 1, 0] rfl
theorem m_X11_drown (l : Launch) {α : Nat → Nat} {D : va_G} {cA : Nat → ClassId} (hin : inj shM.length α) (x1 : Int32) (σ : St) : CT shM l yX11_drown cX11_drown 4 (some .int) 4 90 emI α D cA [.ref (α 0), .int x1] σ (f_X11_drown x1 σ) := ct_of rfl (Nat.le_of_ble_eq_true rfl) hin (fun z _ C => w_X11_drown_e C x1 σ)
set_option maxRecDepth 100000 in
set_option maxHeartbeats 4000000 in
theorem w_X11_melt_34 {α : Nat → Nat} {D : va_G} {cA : Nat → ClassId} {z : Cz} (C : CX shM α D cA z RX11 cX11_melt 3 (some .int) 2 45) (σ : St) : RX emI shM α D cA z 3 σ 34 [(0, .ref (α 0))] [] (f_X11_melt_34 σ) := by
  unfold f_X11_melt_34
  refine rx_aload_n C 0 dX11_melt_34 rfl rfl ?_
  refine rx_iconst C dX11_melt_35 ic_3 ?_
  refine rx_callVi C [.int (3 : Int32)] [] (m_X11_refuses z.l C.inj (3 : Int32) σ) mv_X11_refuses lk_X11_234 sm_0 rfl rfl rfl (Nat.le_of_ble_eq_true rfl) ⟨Nat.le_of_ble_eq_true rfl, Nat.le_of_ble_eq_true rfl⟩ dX11_melt_36 (fun q12 => ?_)
  exact rx_iret C dX11_melt_39
set_option maxRecDepth 100000 in
set_option maxHeartbeats 4000000 in
theorem w_X11_melt_e {α : Nat → Nat} {D : va_G} {cA : Nat → ClassId} {z : Cz} (C : CX shM α D cA z RX11 cX11_melt 3 (some .int) 2 45) (x1 : Int32) (x2 : Int32) (σ : St) : RX emI shM α D cA z 3 σ 0 [(0, .ref (α 0)), (1, .int x1), (2, .int x2)] [] (f_X11_melt x1 x2 σ) := by
  unfold f_X11_melt
  refine rx_aload_n C 0 dX11_melt_0 rfl rfl ?_
  refine rx_iload_n C 1 dX11_melt_1 rfl rfl ?_
  refine rx_callVi C [.int x1] [] (m_X11_isPerson z.l C.inj x1 σ) mv_X11_isPerson lk_X11_483 sm_0 rfl rfl rfl (Nat.le_of_ble_eq_true rfl) ⟨Nat.le_of_ble_eq_true rfl, Nat.le_of_ble_eq_true rfl⟩ dX11_melt_2 (fun q11 => ?_)
  refine rx_if_eq C (tgt := 34) dX11_melt_5 (by decide) (fun _ => ?_) (fun _ => ?_)
  · exact RX.loc (w_X11_melt_34 C q11.2) [0] rfl
  · refine rx_aload_n C 0 dX11_melt_8 rfl rfl ?_
    refine rx_iload_n C 2 dX11_melt_9 rfl rfl ?_
    refine rx_callVi C [.int x2] [] (m_X11_isTitle z.l C.inj x2 q11.2) mv_X11_isTitle lk_X11_467 sm_0 rfl rfl rfl (Nat.le_of_ble_eq_true rfl) ⟨Nat.le_of_ble_eq_true rfl, Nat.le_of_ble_eq_true rfl⟩ dX11_melt_10 (fun q13 => ?_)
    refine rx_if_eq C (tgt := 34) dX11_melt_13 (by decide) (fun _ => ?_) (fun _ => ?_)
    · exact RX.loc (w_X11_melt_34 C q13.2) [0] rfl
    · refine rx_aload_n C 0 dX11_melt_16 rfl rfl ?_
      refine rx_iload_n C 1 dX11_melt_17 rfl rfl ?_
      refine rx_iload_n C 2 dX11_melt_18 rfl rfl ?_
      refine rx_callVi C [.int x1, .int x2] [] (m_X11_hasTitle z.l C.inj x1 x2 q13.2) mv_X11_hasTitle lk_X11_470 sm_0 rfl rfl rfl (Nat.le_of_ble_eq_true rfl) ⟨Nat.le_of_ble_eq_true rfl, Nat.le_of_ble_eq_true rfl⟩ dX11_melt_19 (fun q14 => ?_)
      refine rx_if_eq C (tgt := 34) dX11_melt_22 (by decide) (fun _ => ?_) (fun _ => ?_)
      · exact RX.loc (w_X11_melt_34 C q14.2) [0] rfl
      · refine rx_aload_n C 0 dX11_melt_25 rfl rfl ?_
        refine rx_getI C (k := 60) sm_0 fc_X11 (by decide) rfl lk_X11_195 dX11_melt_26 ?_
        refine rx_bipush C dX11_melt_29 bp_30 ?_
        refine rx_icmp_ne C (tgt := 40) dX11_melt_31 (by decide) (fun _ => ?_) (fun _ => ?_)
        · exact RX.loc (w_X11_melt_34 C q14.2) [0] rfl
        · refine rx_aload_n C 0 dX11_melt_40 rfl rfl ?_
          refine rx_iload_n C 1 dX11_melt_41 rfl rfl ?_
          refine rx_iload_n C 2 dX11_melt_42 rfl rfl ?_
          refine rx_callVv C [.int x1, .int x2] [] (m_X11_goes z.l C.inj x1 x2 q14.2) mv_X11_goes lk_X11_527 sm_0 rfl rfl rfl (Nat.le_of_ble_eq_true rfl) ⟨Nat.le_of_ble_eq_true rfl, Nat.le_of_ble_eq_true rfl⟩ dX11_melt_43 (fun q15 => ?_)
          refine rx_aload_n C 0 dX11_melt_46 rfl rfl ?_
          refine rx_getC C (k := 61) sm_0 fc_X11 (by decide) 40 rfl lk_X11_198 dX11_melt_47 ?_
          refine rx_aload_n C 0 dX11_melt_50 rfl rfl ?_
          refine rx_getI C (k := 60) sm_0 fc_X11 (by decide) rfl lk_X11_195 dX11_melt_51 ?_
          refine rx_aload_n C 0 dX11_melt_54 rfl rfl ?_
          refine rx_iload_n C 2 dX11_melt_55 rfl rfl ?_
          refine rx_callVi C [.int x2] [.int (gI q15.2 0 60), .ref (α 40)] (m_X11_ouncesOf z.l C.inj x2 q15.2) mv_X11_ouncesOf lk_X11_439 sm_0 rfl rfl rfl (Nat.le_of_ble_eq_true rfl) ⟨Nat.le_of_ble_eq_true rfl, Nat.le_of_ble_eq_true rfl⟩ dX11_melt_56 (fun q16 => ?_)
          refine rx_iast C (n := 30) sm_40 dX11_melt_59 (fun _ => ?_)
          refine rx_lts (fun σ17 => ?_)
          refine rx_aload_n C 0 dX11_melt_60 rfl rfl ?_
          refine rx_dup C dX11_melt_61 rfl ?_
          refine rx_getI C (k := 60) sm_0 fc_X11 (by decide) rfl lk_X11_195 dX11_melt_62 ?_
          refine rx_iconst C dX11_melt_65 ic_1 ?_
          refine rx_iadd C dX11_melt_66 ?_
          refine rx_putI C (k := 60) sm_0 fc_X11 (by decide) rfl lk_X11_195 rfl ⟨rfl, rfl⟩ dX11_melt_67 ?_
          refine rx_lts (fun σ18 => ?_)
          refine rx_aload_n C 0 dX11_melt_70 rfl rfl ?_
          refine rx_bipush C dX11_melt_71 bp_7 ?_
          refine rx_iload_n C 1 dX11_melt_73 rfl rfl ?_
          refine rx_iconst C dX11_melt_74 ic_m1 ?_
          refine rx_aload_n C 0 dX11_melt_75 rfl rfl ?_
          refine rx_iload_n C 2 dX11_melt_76 rfl rfl ?_
          refine rx_callVi C [.int x2] [.int (-1 : Int32), .int x1, .int (7 : Int32), .ref (α 0)] (m_X11_ouncesOf z.l C.inj x2 σ18) mv_X11_ouncesOf lk_X11_439 sm_0 rfl rfl rfl (Nat.le_of_ble_eq_true rfl) ⟨Nat.le_of_ble_eq_true rfl, Nat.le_of_ble_eq_true rfl⟩ dX11_melt_77 (fun q19 => ?_)
          refine rx_callVv C [.int (7 : Int32), .int x1, .int (-1 : Int32), .int q19.1] [] (m_X11_notes z.l C.inj (7 : Int32) x1 (-1 : Int32) q19.1 q19.2) mv_X11_notes lk_X11_517 sm_0 rfl rfl rfl (Nat.le_of_ble_eq_true rfl) ⟨Nat.le_of_ble_eq_true rfl, Nat.le_of_ble_eq_true rfl⟩ dX11_melt_80 (fun q20 => ?_)
          refine rx_aload_n C 0 dX11_melt_83 rfl rfl ?_
          refine rx_getI C (k := 60) sm_0 fc_X11 (by decide) rfl lk_X11_195 dX11_melt_84 ?_
          exact rx_iret C dX11_melt_87
theorem m_X11_melt (l : Launch) {α : Nat → Nat} {D : va_G} {cA : Nat → ClassId} (hin : inj shM.length α) (x1 : Int32) (x2 : Int32) (σ : St) : CT shM l yX11_melt cX11_melt 3 (some .int) 2 45 emI α D cA [.ref (α 0), .int x1, .int x2] σ (f_X11_melt x1 x2 σ) := ct_of rfl (Nat.le_of_ble_eq_true rfl) hin (fun z _ C => w_X11_melt_e C x1 x2 σ)
set_option maxRecDepth 100000 in
set_option maxHeartbeats 4000000 in
theorem w_X11_empties_2 {α : Nat → Nat} {D : va_G} {cA : Nat → ClassId} {z : Cz} (C : CX shM α D cA z RX11 cX11_empties 3 none 0 0) : ∀ (n : Nat) (x1 : Int32) (x2 : Int32) (σ : St), RX emV shM α D cA z 3 σ 2 [(0, .ref (α 0)), (1, .int x1), (2, .int x2)] [] (f_X11_empties_2 n x1 x2 σ) := by
  intro n
  induction n with
  | zero => intros; exact rx_none
  | succ n hk_2 =>
    intro x1 x2 σ
    rw [f_X11_empties_2.eq_2]
    refine rx_iload_n C 2 dX11_empties_2 rfl rfl ?_
    refine rx_bipush C dX11_empties_3 bp_26 ?_
    refine rx_icmp_ge C (tgt := 50) dX11_empties_5 (by decide) (fun _ => ?_) (fun _ => ?_)
    · exact rx_vret C dX11_empties_50
    · refine rx_aload_n C 0 dX11_empties_8 rfl rfl ?_
      refine rx_getC C (k := 54) sm_0 fc_X11 (by decide) 36 rfl lk_X11_177 dX11_empties_9 ?_
      refine rx_sipush C dX11_empties_12 sp_208 ?_
      refine rx_iload_n C 2 dX11_empties_15 rfl rfl ?_
      refine rx_iadd C dX11_empties_16 ?_
      refine rx_lti (fun w4 => ?_)
      refine rx_dup2 C dX11_empties_17 rfl rfl ?_
      refine rx_iald C (n := 234) sm_36 dX11_empties_18 (fun _ => ?_)
      refine rx_aload_n C 0 dX11_empties_19 rfl rfl ?_
      refine rx_getC C (k := 54) sm_0 fc_X11 (by decide) 36 rfl lk_X11_177 dX11_empties_20 ?_
      refine rx_bipush C dX11_empties_23 bp_26 ?_
      refine rx_iload_n C 1 dX11_empties_25 rfl rfl ?_
      refine rx_imul C dX11_empties_26 ?_
      refine rx_iload_n C 2 dX11_empties_27 rfl rfl ?_
      refine rx_iadd C dX11_empties_28 ?_
      refine rx_iald C (n := 234) sm_36 dX11_empties_29 (fun _ => ?_)
      refine rx_iadd C dX11_empties_30 ?_
      refine rx_iast C (n := 234) sm_36 dX11_empties_31 (fun _ => ?_)
      refine rx_lts (fun σ5 => ?_)
      refine rx_aload_n C 0 dX11_empties_32 rfl rfl ?_
      refine rx_getC C (k := 54) sm_0 fc_X11 (by decide) 36 rfl lk_X11_177 dX11_empties_33 ?_
      refine rx_bipush C dX11_empties_36 bp_26 ?_
      refine rx_iload_n C 1 dX11_empties_38 rfl rfl ?_
      refine rx_imul C dX11_empties_39 ?_
      refine rx_iload_n C 2 dX11_empties_40 rfl rfl ?_
      refine rx_iadd C dX11_empties_41 ?_
      refine rx_iconst C dX11_empties_42 ic_0 ?_
      refine rx_iast C (n := 234) sm_36 dX11_empties_43 (fun _ => ?_)
      refine rx_lts (fun σ6 => ?_)
      refine rx_iinc C (k0 := 2) (v := x2 + (1 : Int32)) [(2, .int (x2 + (1 : Int32))), (0, .ref (α 0)), (1, .int x1)] dX11_empties_44 rfl (congrArg _ ic_1) (by decide) rfl ?_
      refine rx_goto C (tgt := 2) dX11_empties_47 (by decide) ?_
      exact RX.loc (hk_2 x1 (x2 + (1 : Int32)) σ6) [1, 2, 0] rfl
set_option maxRecDepth 100000 in
set_option maxHeartbeats 4000000 in
theorem w_X11_empties_e {α : Nat → Nat} {D : va_G} {cA : Nat → ClassId} {z : Cz} (C : CX shM α D cA z RX11 cX11_empties 3 none 0 0) (x1 : Int32) (σ : St) : RX emV shM α D cA z 3 σ 0 [(0, .ref (α 0)), (1, .int x1)] [] (f_X11_empties x1 σ) := by
  unfold f_X11_empties
  refine rx_iconst C dX11_empties_0 ic_0 ?_
  refine rx_istore_n C [(2, .int (0 : Int32)), (0, .ref (α 0)), (1, .int x1)] dX11_empties_1 rfl (by decide) rfl ?_
  exact RX.loc (w_X11_empties_2 C FU x1 (0 : Int32) σ) [1, 2, 0] rfl
theorem m_X11_empties (l : Launch) {α : Nat → Nat} {D : va_G} {cA : Nat → ClassId} (hin : inj shM.length α) (x1 : Int32) (σ : St) : CT shM l yX11_empties cX11_empties 3 none 0 0 emV α D cA [.ref (α 0), .int x1] σ (f_X11_empties x1 σ) := ct_of rfl (Nat.le_of_ble_eq_true rfl) hin (fun z _ C => w_X11_empties_e C x1 σ)
set_option maxRecDepth 100000 in
set_option maxHeartbeats 4000000 in
theorem w_X11_heir_21 {α : Nat → Nat} {D : va_G} {cA : Nat → ClassId} {z : Cz} (C : CX shM α D cA z RX11 cX11_heir 6 (some .int) 4 100) (σ : St) : RX emI shM α D cA z 6 σ 21 [(0, .ref (α 0))] [] (f_X11_heir_21 σ) := by
  unfold f_X11_heir_21
  refine rx_aload_n C 0 dX11_heir_21 rfl rfl ?_
  refine rx_iconst C dX11_heir_22 ic_3 ?_
  refine rx_callVi C [.int (3 : Int32)] [] (m_X11_refuses z.l C.inj (3 : Int32) σ) mv_X11_refuses lk_X11_234 sm_0 rfl rfl rfl (Nat.le_of_ble_eq_true rfl) ⟨Nat.le_of_ble_eq_true rfl, Nat.le_of_ble_eq_true rfl⟩ dX11_heir_23 (fun q16 => ?_)
  exact rx_iret C dX11_heir_26
set_option maxRecDepth 100000 in
set_option maxHeartbeats 4000000 in
theorem w_X11_heir_135 {α : Nat → Nat} {D : va_G} {cA : Nat → ClassId} {z : Cz} (C : CX shM α D cA z RX11 cX11_heir 6 (some .int) 4 100) (k_72 : Int32 → Int32 → Int32 → Int32 → St → Option (Int32 × St)) (hk_72 : ∀ (x1 : Int32) (x2 : Int32) (x4 : Int32) (x5 : Int32) (σ : St), RX emI shM α D cA z 6 σ 72 [(0, .ref (α 0)), (1, .int x1), (2, .int x2), (4, .int x4), (5, .int x5)] [] (k_72 x1 x2 x4 x5 σ)) (x1 : Int32) (x2 : Int32) (x4 : Int32) (x5 : Int32) (σ : St) : RX emI shM α D cA z 6 σ 135 [(0, .ref (α 0)), (1, .int x1), (2, .int x2), (4, .int x4), (5, .int x5)] [] (f_X11_heir_135 k_72 x1 x2 x4 x5 σ) := by
  unfold f_X11_heir_135
  refine rx_iinc C (k0 := 4) (v := x5 + (1 : Int32)) [(5, .int (x5 + (1 : Int32))), (0, .ref (α 0)), (1, .int x1), (2, .int x2), (4, .int x4)] dX11_heir_135 rfl (congrArg _ ic_1) (by decide) rfl ?_
  refine rx_goto C (tgt := 72) dX11_heir_138 (by decide) ?_
  exact RX.loc (hk_72 x1 x2 x4 (x5 + (1 : Int32)) σ) [1, 2, 3, 4, 0] rfl
set_option maxRecDepth 100000 in
set_option maxHeartbeats 4000000 in
theorem w_X11_heir_72 {α : Nat → Nat} {D : va_G} {cA : Nat → ClassId} {z : Cz} (C : CX shM α D cA z RX11 cX11_heir 6 (some .int) 4 100) : ∀ (n : Nat) (x1 : Int32) (x2 : Int32) (x4 : Int32) (x5 : Int32) (σ : St), RX emI shM α D cA z 6 σ 72 [(0, .ref (α 0)), (1, .int x1), (2, .int x2), (4, .int x4), (5, .int x5)] [] (f_X11_heir_72 n x1 x2 x4 x5 σ) := by
  intro n
  induction n with
  | zero => intros; exact rx_none
  | succ n hk_72 =>
    intro x1 x2 x4 x5 σ
    rw [f_X11_heir_72.eq_2]
    refine rx_iload C 4 dX11_heir_72 rfl ?_
    refine rx_aload_n C 0 dX11_heir_74 rfl rfl ?_
    refine rx_getC C (k := 20) sm_0 fc_X11 (by decide) 9 rfl lk_X11_73 dX11_heir_75 ?_
    refine rx_aload_n C 0 dX11_heir_78 rfl rfl ?_
    refine rx_getI C (k := 12) sm_0 fc_X11 (by decide) rfl lk_X11_48 dX11_heir_79 ?_
    refine rx_iald C (n := 2) sm_9 dX11_heir_82 (fun _ => ?_)
    refine rx_icmp_ge C (tgt := 141) dX11_heir_83 (by decide) (fun _ => ?_) (fun _ => ?_)
    · refine rx_aload_n C 0 dX11_heir_141 rfl rfl ?_
      refine rx_iload_n C 1 dX11_heir_142 rfl rfl ?_
      refine rx_callVv C [.int x1] [] (m_X11_empties z.l C.inj x1 σ) mv_X11_empties lk_X11_542 sm_0 rfl rfl rfl (Nat.le_of_ble_eq_true rfl) ⟨Nat.le_of_ble_eq_true rfl, Nat.le_of_ble_eq_true rfl⟩ dX11_heir_143 (fun q22 => ?_)
      refine rx_aload_n C 0 dX11_heir_146 rfl rfl ?_
      refine rx_bipush C dX11_heir_147 bp_8 ?_
      refine rx_iload_n C 1 dX11_heir_149 rfl rfl ?_
      refine rx_iload_n C 2 dX11_heir_150 rfl rfl ?_
      refine rx_aload_n C 0 dX11_heir_151 rfl rfl ?_
      refine rx_iload C 3 dX11_heir_152 rfl ?_
      refine rx_iconst C dX11_heir_154 ic_0 ?_
      refine rx_callVi C [.int x4, .int (0 : Int32)] [.int x2, .int x1, .int (8 : Int32), .ref (α 0)] (m_X11_sumOf z.l C.inj x4 (0 : Int32) q22.2) mv_X11_sumOf lk_X11_442 sm_0 rfl rfl rfl (Nat.le_of_ble_eq_true rfl) ⟨Nat.le_of_ble_eq_true rfl, Nat.le_of_ble_eq_true rfl⟩ dX11_heir_155 (fun q23 => ?_)
      refine rx_callVv C [.int (8 : Int32), .int x1, .int x2, .int q23.1] [] (m_X11_notes z.l C.inj (8 : Int32) x1 x2 q23.1 q23.2) mv_X11_notes lk_X11_517 sm_0 rfl rfl rfl (Nat.le_of_ble_eq_true rfl) ⟨Nat.le_of_ble_eq_true rfl, Nat.le_of_ble_eq_true rfl⟩ dX11_heir_158 (fun q24 => ?_)
      refine rx_iload C 3 dX11_heir_161 rfl ?_
      exact rx_iret C dX11_heir_163
    · refine rx_aload_n C 0 dX11_heir_86 rfl rfl ?_
      refine rx_iload_n C 1 dX11_heir_87 rfl rfl ?_
      refine rx_iload C 4 dX11_heir_88 rfl ?_
      refine rx_callVi C [.int x1, .int x5] [] (m_X11_hasTitle z.l C.inj x1 x5 σ) mv_X11_hasTitle lk_X11_470 sm_0 rfl rfl rfl (Nat.le_of_ble_eq_true rfl) ⟨Nat.le_of_ble_eq_true rfl, Nat.le_of_ble_eq_true rfl⟩ dX11_heir_90 (fun q25 => ?_)
      refine rx_if_ne C (tgt := 99) dX11_heir_93 (by decide) (fun _ => ?_) (fun _ => ?_)
      · refine rx_goto C (tgt := 135) dX11_heir_96 (by decide) ?_
        exact RX.loc (w_X11_heir_135 C (f_X11_heir_72 n) hk_72 x1 x2 x4 x5 q25.2) [0, 1, 2, 3, 4] rfl
      · refine rx_aload_n C 0 dX11_heir_99 rfl rfl ?_
        refine rx_iload_n C 1 dX11_heir_100 rfl rfl ?_
        refine rx_iload C 4 dX11_heir_101 rfl ?_
        refine rx_callVv C [.int x1, .int x5] [] (m_X11_goes z.l C.inj x1 x5 q25.2) mv_X11_goes lk_X11_527 sm_0 rfl rfl rfl (Nat.le_of_ble_eq_true rfl) ⟨Nat.le_of_ble_eq_true rfl, Nat.le_of_ble_eq_true rfl⟩ dX11_heir_103 (fun q26 => ?_)
        refine rx_iload C 3 dX11_heir_106 rfl ?_
        refine rx_iload C 4 dX11_heir_108 rfl ?_
        refine rx_ishr C dX11_heir_110 ?_
        refine rx_iconst C dX11_heir_111 ic_1 ?_
        refine rx_iand C dX11_heir_112 ?_
        refine rx_iconst C dX11_heir_113 ic_1 ?_
        refine rx_icmp_ne C (tgt := 127) dX11_heir_114 (by decide) (fun _ => ?_) (fun _ => ?_)
        · refine rx_aload_n C 0 dX11_heir_117 rfl rfl ?_
          refine rx_iload_n C 2 dX11_heir_118 rfl rfl ?_
          refine rx_iload C 4 dX11_heir_119 rfl ?_
          refine rx_callVv C [.int x2, .int x5] [] (m_X11_comes z.l C.inj x2 x5 q26.2) mv_X11_comes lk_X11_514 sm_0 rfl rfl rfl (Nat.le_of_ble_eq_true rfl) ⟨Nat.le_of_ble_eq_true rfl, Nat.le_of_ble_eq_true rfl⟩ dX11_heir_121 (fun q27 => ?_)
          refine rx_goto C (tgt := 135) dX11_heir_124 (by decide) ?_
          exact RX.loc (w_X11_heir_135 C (f_X11_heir_72 n) hk_72 x1 x2 x4 x5 q27.2) [0, 1, 2, 3, 4] rfl
        · refine rx_aload_n C 0 dX11_heir_127 rfl rfl ?_
          refine rx_iload C 4 dX11_heir_128 rfl ?_
          refine rx_bipush C dX11_heir_130 bp_8 ?_
          refine rx_callVv C [.int x5, .int (8 : Int32)] [] (m_X11_lays z.l C.inj x5 (8 : Int32) q26.2) mv_X11_lays lk_X11_530 sm_0 rfl rfl rfl (Nat.le_of_ble_eq_true rfl) ⟨Nat.le_of_ble_eq_true rfl, Nat.le_of_ble_eq_true rfl⟩ dX11_heir_132 (fun q28 => ?_)
          exact RX.loc (w_X11_heir_135 C (f_X11_heir_72 n) hk_72 x1 x2 x4 x5 q28.2) [0, 1, 2, 3, 4] rfl
set_option maxRecDepth 100000 in
set_option maxHeartbeats 4000000 in
theorem w_X11_heir_64 {α : Nat → Nat} {D : va_G} {cA : Nat → ClassId} {z : Cz} (C : CX shM α D cA z RX11 cX11_heir 6 (some .int) 4 100) (x1 : Int32) (x2 : Int32) (s2 : Int32) (s1 : Int32) (σ : St) : RX emI shM α D cA z 6 σ 64 [(0, .ref (α 0)), (1, .int x1), (2, .int x2)] [.int s2, .int s1, .ref (α 0)] (f_X11_heir_64 x1 x2 s2 s1 σ) := by
  unfold f_X11_heir_64
  refine rx_callVi C [.int s1, .int s2] [] (m_X11_bestSet z.l C.inj s1 s2 σ) mv_X11_bestSet lk_X11_495 sm_0 rfl rfl rfl (Nat.le_of_ble_eq_true rfl) ⟨Nat.le_of_ble_eq_true rfl, Nat.le_of_ble_eq_true rfl⟩ dX11_heir_64 (fun q21 => ?_)
  refine rx_istore C [(4, .int q21.1), (0, .ref (α 0)), (1, .int x1), (2, .int x2)] dX11_heir_67 (by decide) rfl ?_
  refine rx_iconst C dX11_heir_69 ic_0 ?_
  refine rx_istore C [(5, .int (0 : Int32)), (4, .int q21.1), (0, .ref (α 0)), (1, .int x1), (2, .int x2)] dX11_heir_70 (by decide) rfl ?_
  exact RX.loc (w_X11_heir_72 C FU x1 x2 q21.1 (0 : Int32) q21.2) [2, 3, 4, 1, 0] rfl
set_option maxRecDepth 100000 in
set_option maxHeartbeats 4000000 in
theorem w_X11_heir_e {α : Nat → Nat} {D : va_G} {cA : Nat → ClassId} {z : Cz} (C : CX shM α D cA z RX11 cX11_heir 6 (some .int) 4 100) (x1 : Int32) (x2 : Int32) (σ : St) : RX emI shM α D cA z 6 σ 0 [(0, .ref (α 0)), (1, .int x1), (2, .int x2)] [] (f_X11_heir x1 x2 σ) := by
  unfold f_X11_heir
  refine rx_aload_n C 0 dX11_heir_0 rfl rfl ?_
  refine rx_iload_n C 1 dX11_heir_1 rfl rfl ?_
  refine rx_callVi C [.int x1] [] (m_X11_isPerson z.l C.inj x1 σ) mv_X11_isPerson lk_X11_483 sm_0 rfl rfl rfl (Nat.le_of_ble_eq_true rfl) ⟨Nat.le_of_ble_eq_true rfl, Nat.le_of_ble_eq_true rfl⟩ dX11_heir_2 (fun q15 => ?_)
  refine rx_if_eq C (tgt := 21) dX11_heir_5 (by decide) (fun _ => ?_) (fun _ => ?_)
  · exact RX.loc (w_X11_heir_21 C q15.2) [0] rfl
  · refine rx_aload_n C 0 dX11_heir_8 rfl rfl ?_
    refine rx_iload_n C 2 dX11_heir_9 rfl rfl ?_
    refine rx_callVi C [.int x2] [] (m_X11_isPerson z.l C.inj x2 q15.2) mv_X11_isPerson lk_X11_483 sm_0 rfl rfl rfl (Nat.le_of_ble_eq_true rfl) ⟨Nat.le_of_ble_eq_true rfl, Nat.le_of_ble_eq_true rfl⟩ dX11_heir_10 (fun q17 => ?_)
    refine rx_if_eq C (tgt := 21) dX11_heir_13 (by decide) (fun _ => ?_) (fun _ => ?_)
    · exact RX.loc (w_X11_heir_21 C q17.2) [0] rfl
    · refine rx_iload_n C 1 dX11_heir_16 rfl rfl ?_
      refine rx_iload_n C 2 dX11_heir_17 rfl rfl ?_
      refine rx_icmp_ne C (tgt := 27) dX11_heir_18 (by decide) (fun _ => ?_) (fun _ => ?_)
      · exact RX.loc (w_X11_heir_21 C q17.2) [0] rfl
      · refine rx_aload_n C 0 dX11_heir_27 rfl rfl ?_
        refine rx_iload_n C 2 dX11_heir_28 rfl rfl ?_
        refine rx_callVi C [.int x2] [] (m_X11_limitOf z.l C.inj x2 q17.2) mv_X11_limitOf lk_X11_486 sm_0 rfl rfl rfl (Nat.le_of_ble_eq_true rfl) ⟨Nat.le_of_ble_eq_true rfl, Nat.le_of_ble_eq_true rfl⟩ dX11_heir_29 (fun q18 => ?_)
        refine rx_aload_n C 0 dX11_heir_32 rfl rfl ?_
        refine rx_iload_n C 2 dX11_heir_33 rfl rfl ?_
        refine rx_callVi C [.int x2] [.int q18.1] (m_X11_loadOf z.l C.inj x2 q18.2) mv_X11_loadOf lk_X11_489 sm_0 rfl rfl rfl (Nat.le_of_ble_eq_true rfl) ⟨Nat.le_of_ble_eq_true rfl, Nat.le_of_ble_eq_true rfl⟩ dX11_heir_34 (fun q19 => ?_)
        refine rx_isub C dX11_heir_37 ?_
        refine rx_lti (fun w20 => ?_)
        refine rx_istore_n C [(3, .int w20), (0, .ref (α 0)), (1, .int x1), (2, .int x2)] dX11_heir_38 rfl (by decide) rfl ?_
        refine rx_aload_n C 1 dX11_heir_39 rfl rfl ?_
        refine rx_aload_n C 1 dX11_heir_40 rfl rfl ?_
        refine rx_getC C (k := 53) sm_0 fc_X11 (by decide) 35 rfl lk_X11_174 dX11_heir_41 ?_
        refine rx_iload_n C 2 dX11_heir_44 rfl rfl ?_
        refine rx_iald C (n := 8) sm_35 dX11_heir_45 (fun _ => ?_)
        refine rx_aload_n C 1 dX11_heir_46 rfl rfl ?_
        refine rx_getC C (k := 53) sm_0 fc_X11 (by decide) 35 rfl lk_X11_174 dX11_heir_47 ?_
        refine rx_iload_n C 3 dX11_heir_50 rfl rfl ?_
        refine rx_iald C (n := 8) sm_35 dX11_heir_51 (fun _ => ?_)
        refine rx_iconst C dX11_heir_52 ic_m1 ?_
        refine rx_ixor C dX11_heir_53 ?_
        refine rx_iand C dX11_heir_54 ?_
        refine rx_iload_n C 0 dX11_heir_55 rfl rfl ?_
        refine rx_if_ge C (tgt := 63) dX11_heir_56 (by decide) (fun _ => ?_) (fun _ => ?_)
        · refine rx_iload_n C 0 dX11_heir_63 rfl rfl ?_
          exact RX.loc (w_X11_heir_64 C x1 x2 w20 ((gI q19.2 35 (ix x1)) &&& ((gI q19.2 35 (ix x2)) ^^^ (-1 : Int32))) q19.2) [1, 2, 3] rfl
        · refine rx_iconst C dX11_heir_59 ic_0 ?_
          refine rx_goto C (tgt := 64) dX11_heir_60 (by decide) ?_
          exact RX.loc (w_X11_heir_64 C x1 x2 (0 : Int32) ((gI q19.2 35 (ix x1)) &&& ((gI q19.2 35 (ix x2)) ^^^ (-1 : Int32))) q19.2) [1, 2, 3] rfl
theorem m_X11_heir (l : Launch) {α : Nat → Nat} {D : va_G} {cA : Nat → ClassId} (hin : inj shM.length α) (x1 : Int32) (x2 : Int32) (σ : St) : CT shM l yX11_heir cX11_heir 6 (some .int) 4 100 emI α D cA [.ref (α 0), .int x1, .int x2] σ (f_X11_heir x1 x2 σ) := ct_of rfl (Nat.le_of_ble_eq_true rfl) hin (fun z _ C => w_X11_heir_e C x1 x2 σ)
set_option maxRecDepth 100000 in
set_option maxHeartbeats 4000000 in
theorem w_X11_yearOf_102 {α : Nat → Nat} {D : va_G} {cA : Nat → ClassId} {z : Cz} (C : CX shM α D cA z RX11 cX11_yearOf 6 (some .int) 4 100) (k_55 : Int32 → Int32 → Int32 → Int32 → St → Option (Int32 × St)) (hk_55 : ∀ (x1 : Int32) (x3 : Int32) (x4 : Int32) (x5 : Int32) (σ : St), RX emI shM α D cA z 6 σ 55 [(0, .ref (α 0)), (1, .int x1), (3, .int x3), (4, .int x4), (5, .int x5)] [] (k_55 x1 x3 x4 x5 σ)) (x1 : Int32) (x3 : Int32) (x4 : Int32) (x5 : Int32) (σ : St) : RX emI shM α D cA z 6 σ 102 [(0, .ref (α 0)), (1, .int x1), (3, .int x3), (4, .int x4), (5, .int x5)] [] (f_X11_yearOf_102 k_55 x1 x3 x4 x5 σ) := by
  unfold f_X11_yearOf_102
  refine rx_iinc C (k0 := 4) (v := x5 + (1 : Int32)) [(5, .int (x5 + (1 : Int32))), (0, .ref (α 0)), (1, .int x1), (3, .int x3), (4, .int x4)] dX11_yearOf_102 rfl (congrArg _ ic_1) (by decide) rfl ?_
  refine rx_goto C (tgt := 55) dX11_yearOf_105 (by decide) ?_
  exact RX.loc (hk_55 x1 x3 x4 (x5 + (1 : Int32)) σ) [1, 2, 3, 4, 0] rfl
set_option maxRecDepth 100000 in
set_option maxHeartbeats 4000000 in
theorem w_X11_yearOf_55 {α : Nat → Nat} {D : va_G} {cA : Nat → ClassId} {z : Cz} (C : CX shM α D cA z RX11 cX11_yearOf 6 (some .int) 4 100) : ∀ (n : Nat) (x1 : Int32) (x3 : Int32) (x4 : Int32) (x5 : Int32) (σ : St), RX emI shM α D cA z 6 σ 55 [(0, .ref (α 0)), (1, .int x1), (3, .int x3), (4, .int x4), (5, .int x5)] [] (f_X11_yearOf_55 n x1 x3 x4 x5 σ) := by
  intro n
  induction n with
  | zero => intros; exact rx_none
  | succ n hk_55 =>
    intro x1 x3 x4 x5 σ
    rw [f_X11_yearOf_55.eq_2]
    refine rx_iload C 4 dX11_yearOf_55 rfl ?_
    refine rx_aload_n C 0 dX11_yearOf_57 rfl rfl ?_
    refine rx_getC C (k := 20) sm_0 fc_X11 (by decide) 9 rfl lk_X11_73 dX11_yearOf_58 ?_
    refine rx_aload_n C 0 dX11_yearOf_61 rfl rfl ?_
    refine rx_getI C (k := 12) sm_0 fc_X11 (by decide) rfl lk_X11_48 dX11_yearOf_62 ?_
    refine rx_iald C (n := 2) sm_9 dX11_yearOf_65 (fun _ => ?_)
    refine rx_icmp_ge C (tgt := 108) dX11_yearOf_66 (by decide) (fun _ => ?_) (fun _ => ?_)
    · refine rx_iload C 3 dX11_yearOf_108 rfl ?_
      exact rx_iret C dX11_yearOf_110
    · refine rx_aload_n C 0 dX11_yearOf_69 rfl rfl ?_
      refine rx_iload_n C 1 dX11_yearOf_70 rfl rfl ?_
      refine rx_iload C 4 dX11_yearOf_71 rfl ?_
      refine rx_callVi C [.int x1, .int x5] [] (m_X11_hasTitle z.l C.inj x1 x5 σ) mv_X11_hasTitle lk_X11_470 sm_0 rfl rfl rfl (Nat.le_of_ble_eq_true rfl) ⟨Nat.le_of_ble_eq_true rfl, Nat.le_of_ble_eq_true rfl⟩ dX11_yearOf_73 (fun q15 => ?_)
      refine rx_if_eq C (tgt := 102) dX11_yearOf_76 (by decide) (fun _ => ?_) (fun _ => ?_)
      · exact RX.loc (w_X11_yearOf_102 C (f_X11_yearOf_55 n) hk_55 x1 x3 x4 x5 q15.2) [0, 1, 2, 3, 4] rfl
      · refine rx_iload_n C 2 dX11_yearOf_79 rfl rfl ?_
        refine rx_iload C 4 dX11_yearOf_80 rfl ?_
        refine rx_ishr C dX11_yearOf_82 ?_
        refine rx_iconst C dX11_yearOf_83 ic_1 ?_
        refine rx_iand C dX11_yearOf_84 ?_
        refine rx_iconst C dX11_yearOf_85 ic_1 ?_
        refine rx_icmp_ne C (tgt := 92) dX11_yearOf_86 (by decide) (fun _ => ?_) (fun _ => ?_)
        · refine rx_goto C (tgt := 102) dX11_yearOf_89 (by decide) ?_
          exact RX.loc (w_X11_yearOf_102 C (f_X11_yearOf_55 n) hk_55 x1 x3 x4 x5 q15.2) [0, 1, 2, 3, 4] rfl
        · refine rx_aload_n C 0 dX11_yearOf_92 rfl rfl ?_
          refine rx_iload_n C 1 dX11_yearOf_93 rfl rfl ?_
          refine rx_iload C 4 dX11_yearOf_94 rfl ?_
          refine rx_callVv C [.int x1, .int x5] [] (m_X11_sheds z.l C.inj x1 x5 q15.2) mv_X11_sheds lk_X11_533 sm_0 rfl rfl rfl (Nat.le_of_ble_eq_true rfl) ⟨Nat.le_of_ble_eq_true rfl, Nat.le_of_ble_eq_true rfl⟩ dX11_yearOf_96 (fun q16 => ?_)
          refine rx_iinc C (k0 := 3) (v := x4 + (1 : Int32)) [(4, .int (x4 + (1 : Int32))), (0, .ref (α 0)), (1, .int x1), (3, .int x3), (5, .int x5)] dX11_yearOf_99 rfl (congrArg _ ic_1) (by decide) rfl ?_
          exact RX.loc (w_X11_yearOf_102 C (f_X11_yearOf_55 n) hk_55 x1 x3 (x4 + (1 : Int32)) x5 q16.2) [1, 2, 3, 0, 4] rfl
set_option maxRecDepth 100000 in
set_option maxHeartbeats 4000000 in
theorem w_X11_yearOf_e {α : Nat → Nat} {D : va_G} {cA : Nat → ClassId} {z : Cz} (C : CX shM α D cA z RX11 cX11_yearOf 6 (some .int) 4 100) (x1 : Int32) (σ : St) : RX emI shM α D cA z 6 σ 0 [(0, .ref (α 0)), (1, .int x1)] [] (f_X11_yearOf x1 σ) := by
  unfold f_X11_yearOf
  refine rx_aload_n C 0 dX11_yearOf_0 rfl rfl ?_
  refine rx_iload_n C 1 dX11_yearOf_1 rfl rfl ?_
  refine rx_callVi C [.int x1] [] (m_X11_loadOf z.l C.inj x1 σ) mv_X11_loadOf lk_X11_489 sm_0 rfl rfl rfl (Nat.le_of_ble_eq_true rfl) ⟨Nat.le_of_ble_eq_true rfl, Nat.le_of_ble_eq_true rfl⟩ dX11_yearOf_2 (fun q9 => ?_)
  refine rx_aload_n C 0 dX11_yearOf_5 rfl rfl ?_
  refine rx_iload_n C 1 dX11_yearOf_6 rfl rfl ?_
  refine rx_callVi C [.int x1] [.int q9.1] (m_X11_limitOf z.l C.inj x1 q9.2) mv_X11_limitOf lk_X11_486 sm_0 rfl rfl rfl (Nat.le_of_ble_eq_true rfl) ⟨Nat.le_of_ble_eq_true rfl, Nat.le_of_ble_eq_true rfl⟩ dX11_yearOf_7 (fun q10 => ?_)
  refine rx_icmp_gt C (tgt := 15) dX11_yearOf_10 (by decide) (fun _ => ?_) (fun _ => ?_)
  · refine rx_aload_n C 0 dX11_yearOf_15 rfl rfl ?_
    refine rx_iload_n C 1 dX11_yearOf_16 rfl rfl ?_
    refine rx_callVv C [.int x1] [] (m_X11_empties z.l C.inj x1 q10.2) mv_X11_empties lk_X11_542 sm_0 rfl rfl rfl (Nat.le_of_ble_eq_true rfl) ⟨Nat.le_of_ble_eq_true rfl, Nat.le_of_ble_eq_true rfl⟩ dX11_yearOf_17 (fun q11 => ?_)
    refine rx_aload_n C 0 dX11_yearOf_20 rfl rfl ?_
    refine rx_iload_n C 1 dX11_yearOf_21 rfl rfl ?_
    refine rx_callVi C [.int x1] [] (m_X11_limitOf z.l C.inj x1 q11.2) mv_X11_limitOf lk_X11_486 sm_0 rfl rfl rfl (Nat.le_of_ble_eq_true rfl) ⟨Nat.le_of_ble_eq_true rfl, Nat.le_of_ble_eq_true rfl⟩ dX11_yearOf_22 (fun q12 => ?_)
    refine rx_istore_n C [(2, .int q12.1), (0, .ref (α 0)), (1, .int x1)] dX11_yearOf_25 rfl (by decide) rfl ?_
    refine rx_aload_n C 1 dX11_yearOf_26 rfl rfl ?_
    refine rx_iload_n C 2 dX11_yearOf_27 rfl rfl ?_
    refine rx_callVi C [.int x1] [] (m_X11_loadOf z.l C.inj x1 q12.2) mv_X11_loadOf lk_X11_489 sm_0 rfl rfl rfl (Nat.le_of_ble_eq_true rfl) ⟨Nat.le_of_ble_eq_true rfl, Nat.le_of_ble_eq_true rfl⟩ dX11_yearOf_28 (fun q13 => ?_)
    refine rx_iload_n C 0 dX11_yearOf_31 rfl rfl ?_
    refine rx_icmp_gt C (tgt := 37) dX11_yearOf_32 (by decide) (fun _ => ?_) (fun _ => ?_)
    · refine rx_aload_n C 1 dX11_yearOf_37 rfl rfl ?_
      refine rx_aload_n C 1 dX11_yearOf_38 rfl rfl ?_
      refine rx_getC C (k := 53) sm_0 fc_X11 (by decide) 35 rfl lk_X11_174 dX11_yearOf_39 ?_
      refine rx_iload_n C 2 dX11_yearOf_42 rfl rfl ?_
      refine rx_iald C (n := 8) sm_35 dX11_yearOf_43 (fun _ => ?_)
      refine rx_iload_n C 0 dX11_yearOf_44 rfl rfl ?_
      refine rx_callVi C [.int (gI q13.2 35 (ix x1)), .int q12.1] [] (m_X11_bestSet z.l C.inj (gI q13.2 35 (ix x1)) q12.1 q13.2) mv_X11_bestSet lk_X11_495 sm_0 rfl rfl rfl (Nat.le_of_ble_eq_true rfl) ⟨Nat.le_of_ble_eq_true rfl, Nat.le_of_ble_eq_true rfl⟩ dX11_yearOf_45 (fun q14 => ?_)
      refine rx_istore_n C [(3, .int q14.1), (2, .int q12.1), (0, .ref (α 0)), (1, .int x1)] dX11_yearOf_48 rfl (by decide) rfl ?_
      refine rx_iconst C dX11_yearOf_49 ic_0 ?_
      refine rx_istore C [(4, .int (0 : Int32)), (3, .int q14.1), (2, .int q12.1), (0, .ref (α 0)), (1, .int x1)] dX11_yearOf_50 (by decide) rfl ?_
      refine rx_iconst C dX11_yearOf_52 ic_0 ?_
      refine rx_istore C [(5, .int (0 : Int32)), (4, .int (0 : Int32)), (3, .int q14.1), (2, .int q12.1), (0, .ref (α 0)), (1, .int x1)] dX11_yearOf_53 (by decide) rfl ?_
      exact RX.loc (w_X11_yearOf_55 C FU x1 q14.1 (0 : Int32) (0 : Int32) q14.2) [4, 5, 2, 1, 0] rfl
    · refine rx_iconst C dX11_yearOf_35 ic_0 ?_
      exact rx_iret C dX11_yearOf_36
  · refine rx_iconst C dX11_yearOf_13 ic_0 ?_
    exact rx_iret C dX11_yearOf_14
theorem m_X11_yearOf (l : Launch) {α : Nat → Nat} {D : va_G} {cA : Nat → ClassId} (hin : inj shM.length α) (x1 : Int32) (σ : St) : CT shM l yX11_yearOf cX11_yearOf 6 (some .int) 4 100 emI α D cA [.ref (α 0), .int x1] σ (f_X11_yearOf x1 σ) := ct_of rfl (Nat.le_of_ble_eq_true rfl) hin (fun z _ C => w_X11_yearOf_e C x1 σ)
set_option maxRecDepth 100000 in
set_option maxHeartbeats 4000000 in
theorem w_X11_years_55 {α : Nat → Nat} {D : va_G} {cA : Nat → ClassId} {z : Cz} (C : CX shM α D cA z RX11 cX11_years 5 (some .int) 5 125) (k_20 : Int32 → Int32 → Int32 → St → Option (Int32 × St)) (hk_20 : ∀ (x1 : Int32) (x2 : Int32) (x3 : Int32) (σ : St), RX emI shM α D cA z 5 σ 20 [(0, .ref (α 0)), (1, .int x1), (2, .int x2), (3, .int x3)] [] (k_20 x1 x2 x3 σ)) : ∀ (n : Nat) (x1 : Int32) (x2 : Int32) (x3 : Int32) (x4 : Int32) (σ : St), RX emI shM α D cA z 5 σ 55 [(0, .ref (α 0)), (1, .int x1), (2, .int x2), (3, .int x3), (4, .int x4)] [] (f_X11_years_55 k_20 n x1 x2 x3 x4 σ) := by
  intro n
  induction n with
  | zero => intros; exact rx_none
  | succ n hk_55 =>
    intro x1 x2 x3 x4 σ
    rw [f_X11_years_55.eq_2]
    refine rx_iload C 4 dX11_years_55 rfl ?_
    refine rx_aload_n C 0 dX11_years_57 rfl rfl ?_
    refine rx_getC C (k := 14) sm_0 fc_X11 (by decide) 3 rfl lk_X11_54 dX11_years_58 ?_
    refine rx_aload_n C 0 dX11_years_61 rfl rfl ?_
    refine rx_getI C (k := 12) sm_0 fc_X11 (by decide) rfl lk_X11_48 dX11_years_62 ?_
    refine rx_iald C (n := 2) sm_3 dX11_years_65 (fun _ => ?_)
    refine rx_icmp_ge C (tgt := 84) dX11_years_66 (by decide) (fun _ => ?_) (fun _ => ?_)
    · refine rx_iinc C (k0 := 3) (v := x3 + (1 : Int32)) [(3, .int (x3 + (1 : Int32))), (0, .ref (α 0)), (1, .int x1), (2, .int x2), (4, .int x4)] dX11_years_84 rfl (congrArg _ ic_1) (by decide) rfl ?_
      refine rx_goto C (tgt := 20) dX11_years_87 (by decide) ?_
      exact RX.loc (hk_20 x1 x2 (x3 + (1 : Int32)) σ) [1, 2, 3, 0] rfl
    · refine rx_iload_n C 2 dX11_years_69 rfl rfl ?_
      refine rx_aload_n C 0 dX11_years_70 rfl rfl ?_
      refine rx_iload C 4 dX11_years_71 rfl ?_
      refine rx_callVi C [.int x4] [.int x2] (m_X11_yearOf z.l C.inj x4 σ) mv_X11_yearOf lk_X11_545 sm_0 rfl rfl rfl (Nat.le_of_ble_eq_true rfl) ⟨Nat.le_of_ble_eq_true rfl, Nat.le_of_ble_eq_true rfl⟩ dX11_years_73 (fun q9 => ?_)
      refine rx_iadd C dX11_years_76 ?_
      refine rx_lti (fun w10 => ?_)
      refine rx_istore_n C [(2, .int w10), (0, .ref (α 0)), (1, .int x1), (3, .int x3), (4, .int x4)] dX11_years_77 rfl (by decide) rfl ?_
      refine rx_iinc C (k0 := 4) (v := x4 + (1 : Int32)) [(4, .int (x4 + (1 : Int32))), (2, .int w10), (0, .ref (α 0)), (1, .int x1), (3, .int x3)] dX11_years_78 rfl (congrArg _ ic_1) (by decide) rfl ?_
      refine rx_goto C (tgt := 55) dX11_years_81 (by decide) ?_
      exact RX.loc (hk_55 x1 w10 x3 (x4 + (1 : Int32)) q9.2) [2, 3, 1, 4, 0] rfl
set_option maxRecDepth 100000 in
set_option maxHeartbeats 4000000 in
theorem w_X11_years_49 {α : Nat → Nat} {D : va_G} {cA : Nat → ClassId} {z : Cz} (C : CX shM α D cA z RX11 cX11_years 5 (some .int) 5 125) (k_20 : Int32 → Int32 → Int32 → St → Option (Int32 × St)) (hk_20 : ∀ (x1 : Int32) (x2 : Int32) (x3 : Int32) (σ : St), RX emI shM α D cA z 5 σ 20 [(0, .ref (α 0)), (1, .int x1), (2, .int x2), (3, .int x3)] [] (k_20 x1 x2 x3 σ)) (x1 : Int32) (x2 : Int32) (x3 : Int32) (s1 : Int32) (σ : St) : RX emI shM α D cA z 5 σ 49 [(0, .ref (α 0)), (1, .int x1), (2, .int x2), (3, .int x3)] [.int s1, .ref (α 0)] (f_X11_years_49 k_20 x1 x2 x3 s1 σ) := by
  unfold f_X11_years_49
  refine rx_putI C (k := 52) sm_0 fc_X11 (by decide) rfl lk_X11_171 rfl ⟨rfl, rfl⟩ dX11_years_49 ?_
  refine rx_lts (fun σ8 => ?_)
  refine rx_iconst C dX11_years_52 ic_0 ?_
  refine rx_istore C [(4, .int (0 : Int32)), (0, .ref (α 0)), (1, .int x1), (2, .int x2), (3, .int x3)] dX11_years_53 (by decide) rfl ?_
  exact RX.loc (w_X11_years_55 C k_20 hk_20 FU x1 x2 x3 (0 : Int32) σ8) [1, 2, 3, 4, 0] rfl
set_option maxRecDepth 100000 in
set_option maxHeartbeats 4000000 in
theorem w_X11_years_20 {α : Nat → Nat} {D : va_G} {cA : Nat → ClassId} {z : Cz} (C : CX shM α D cA z RX11 cX11_years 5 (some .int) 5 125) : ∀ (n : Nat) (x1 : Int32) (x2 : Int32) (x3 : Int32) (σ : St), RX emI shM α D cA z 5 σ 20 [(0, .ref (α 0)), (1, .int x1), (2, .int x2), (3, .int x3)] [] (f_X11_years_20 n x1 x2 x3 σ) := by
  intro n
  induction n with
  | zero => intros; exact rx_none
  | succ n hk_20 =>
    intro x1 x2 x3 σ
    rw [f_X11_years_20.eq_2]
    refine rx_iload_n C 3 dX11_years_20 rfl rfl ?_
    refine rx_iload_n C 1 dX11_years_21 rfl rfl ?_
    refine rx_icmp_ge C (tgt := 90) dX11_years_22 (by decide) (fun _ => ?_) (fun _ => ?_)
    · refine rx_iload_n C 2 dX11_years_90 rfl rfl ?_
      exact rx_iret C dX11_years_91
    · refine rx_aload_n C 0 dX11_years_25 rfl rfl ?_
      refine rx_aload_n C 0 dX11_years_26 rfl rfl ?_
      refine rx_getI C (k := 52) sm_0 fc_X11 (by decide) rfl lk_X11_171 dX11_years_27 ?_
      refine rx_sipush C dX11_years_30 sp_999 ?_
      refine rx_icmp_ge C (tgt := 45) dX11_years_33 (by decide) (fun _ => ?_) (fun _ => ?_)
      · refine rx_aload_n C 0 dX11_years_45 rfl rfl ?_
        refine rx_getI C (k := 52) sm_0 fc_X11 (by decide) rfl lk_X11_171 dX11_years_46 ?_
        exact RX.loc (w_X11_years_49 C (f_X11_years_20 n) hk_20 x1 x2 x3 (gI σ 0 52) σ) [0, 1, 2, 3] rfl
      · refine rx_aload_n C 0 dX11_years_36 rfl rfl ?_
        refine rx_getI C (k := 52) sm_0 fc_X11 (by decide) rfl lk_X11_171 dX11_years_37 ?_
        refine rx_iconst C dX11_years_40 ic_1 ?_
        refine rx_iadd C dX11_years_41 ?_
        refine rx_goto C (tgt := 49) dX11_years_42 (by decide) ?_
        exact RX.loc (w_X11_years_49 C (f_X11_years_20 n) hk_20 x1 x2 x3 ((gI σ 0 52) + (1 : Int32)) σ) [0, 1, 2, 3] rfl
set_option maxRecDepth 100000 in
set_option maxHeartbeats 4000000 in
theorem w_X11_years_e {α : Nat → Nat} {D : va_G} {cA : Nat → ClassId} {z : Cz} (C : CX shM α D cA z RX11 cX11_years 5 (some .int) 5 125) (x1 : Int32) (σ : St) : RX emI shM α D cA z 5 σ 0 [(0, .ref (α 0)), (1, .int x1)] [] (f_X11_years x1 σ) := by
  unfold f_X11_years
  refine rx_iload_n C 1 dX11_years_0 rfl rfl ?_
  refine rx_iconst C dX11_years_1 ic_1 ?_
  refine rx_bipush C dX11_years_2 bp_60 ?_
  refine rx_callSi C [.int x1, .int (1 : Int32), .int (60 : Int32)] [] (m_X11_is z.l C.inj x1 (1 : Int32) (60 : Int32) σ) ms_X11_is lk_X11_309 rfl rfl (Nat.le_of_ble_eq_true rfl) ⟨Nat.le_of_ble_eq_true rfl, Nat.le_of_ble_eq_true rfl⟩ dX11_years_4 (fun q6 => ?_)
  refine rx_if_ne C (tgt := 16) dX11_years_7 (by decide) (fun _ => ?_) (fun _ => ?_)
  · refine rx_aload_n C 0 dX11_years_10 rfl rfl ?_
    refine rx_iconst C dX11_years_11 ic_4 ?_
    refine rx_callVi C [.int (4 : Int32)] [] (m_X11_refuses z.l C.inj (4 : Int32) q6.2) mv_X11_refuses lk_X11_234 sm_0 rfl rfl rfl (Nat.le_of_ble_eq_true rfl) ⟨Nat.le_of_ble_eq_true rfl, Nat.le_of_ble_eq_true rfl⟩ dX11_years_12 (fun q7 => ?_)
    exact rx_iret C dX11_years_15
  · refine rx_iconst C dX11_years_16 ic_0 ?_
    refine rx_istore_n C [(2, .int (0 : Int32)), (0, .ref (α 0)), (1, .int x1)] dX11_years_17 rfl (by decide) rfl ?_
    refine rx_iconst C dX11_years_18 ic_0 ?_
    refine rx_istore_n C [(3, .int (0 : Int32)), (2, .int (0 : Int32)), (0, .ref (α 0)), (1, .int x1)] dX11_years_19 rfl (by decide) rfl ?_
    exact RX.loc (w_X11_years_20 C FU x1 (0 : Int32) (0 : Int32) q6.2) [2, 3, 1, 0] rfl
theorem m_X11_years (l : Launch) {α : Nat → Nat} {D : va_G} {cA : Nat → ClassId} (hin : inj shM.length α) (x1 : Int32) (σ : St) : CT shM l yX11_years cX11_years 5 (some .int) 5 125 emI α D cA [.ref (α 0), .int x1] σ (f_X11_years x1 σ) := ct_of rfl (Nat.le_of_ble_eq_true rfl) hin (fun z _ C => w_X11_years_e C x1 σ)
set_option maxRecDepth 100000 in
set_option maxHeartbeats 4000000 in
theorem w_X11_drawn_e {α : Nat → Nat} {D : va_G} {cA : Nat → ClassId} {z : Cz} (C : CX shM α D cA z RX11 cX11_drawn 2 (some .int) 0 0) (x1 : Int32) (σ : St) : RX emI shM α D cA z 2 σ 0 [(0, .ref (α 0)), (1, .int x1)] [] (f_X11_drawn x1 σ) := by
  unfold f_X11_drawn
  refine rx_aload_n C 0 dX11_drawn_0 rfl rfl ?_
  refine rx_ldc2_w C lk_X11_548 dX11_drawn_1 ?_
  refine rx_aload_n C 0 dX11_drawn_4 rfl rfl ?_
  refine rx_getL C (k := 67) sm_0 fc_X11 (by decide) rfl lk_X11_216 dX11_drawn_5 ?_
  refine rx_lmul C dX11_drawn_8 ?_
  refine rx_ldc2_w C lk_X11_550 dX11_drawn_9 ?_
  refine rx_ladd C dX11_drawn_12 ?_
  refine rx_ldc2_w C lk_X11_552 dX11_drawn_13 ?_
  refine rx_lremC C dX11_drawn_16 (by decide) ?_
  refine rx_putL C (k := 67) sm_0 fc_X11 (by decide) rfl lk_X11_216 rfl ⟨rfl, rfl⟩ dX11_drawn_17 ?_
  refine rx_lts (fun σ2 => ?_)
  refine rx_aload_n C 0 dX11_drawn_20 rfl rfl ?_
  refine rx_getL C (k := 67) sm_0 fc_X11 (by decide) rfl lk_X11_216 dX11_drawn_21 ?_
  refine rx_ldc2_w C lk_X11_554 dX11_drawn_24 ?_
  refine rx_ldivC C dX11_drawn_27 (by decide) ?_
  refine rx_iload_n C 1 dX11_drawn_28 rfl rfl ?_
  refine rx_i2l C dX11_drawn_29 ?_
  refine rx_lrem C dX11_drawn_30 (fun _ => ?_)
  refine rx_l2i C dX11_drawn_31 ?_
  exact rx_iret C dX11_drawn_32
theorem m_X11_drawn (l : Launch) {α : Nat → Nat} {D : va_G} {cA : Nat → ClassId} (hin : inj shM.length α) (x1 : Int32) (σ : St) : CT shM l yX11_drawn cX11_drawn 2 (some .int) 0 0 emI α D cA [.ref (α 0), .int x1] σ (f_X11_drawn x1 σ) := ct_of rfl (Nat.le_of_ble_eq_true rfl) hin (fun z _ C => w_X11_drawn_e C x1 σ)
set_option maxRecDepth 100000 in
set_option maxHeartbeats 4000000 in
theorem w_X11_feastOf_107 {α : Nat → Nat} {D : va_G} {cA : Nat → ClassId} {z : Cz} (C : CX shM α D cA z RX11 cX11_feastOf 5 (some .int) 5 123) (σ : St) : RX emI shM α D cA z 5 σ 107 [] [] (f_X11_feastOf_107 σ) := by
  unfold f_X11_feastOf_107
  refine rx_iconst C dX11_feastOf_107 ic_0 ?_
  exact rx_iret C dX11_feastOf_108
set_option maxRecDepth 100000 in
set_option maxHeartbeats 4000000 in
theorem w_X11_feastOf_101 {α : Nat → Nat} {D : va_G} {cA : Nat → ClassId} {z : Cz} (C : CX shM α D cA z RX11 cX11_feastOf 5 (some .int) 5 123) (k_51 : Int32 → Int32 → Int32 → St → Option (Int32 × St)) (hk_51 : ∀ (x1 : Int32) (x3 : Int32) (x4 : Int32) (σ : St), RX emI shM α D cA z 5 σ 51 [(0, .ref (α 0)), (1, .int x1), (3, .int x3), (4, .int x4)] [] (k_51 x1 x3 x4 σ)) (x1 : Int32) (x3 : Int32) (x4 : Int32) (σ : St) : RX emI shM α D cA z 5 σ 101 [(0, .ref (α 0)), (1, .int x1), (3, .int x3), (4, .int x4)] [] (f_X11_feastOf_101 k_51 x1 x3 x4 σ) := by
  unfold f_X11_feastOf_101
  refine rx_iinc C (k0 := 3) (v := x4 + (1 : Int32)) [(4, .int (x4 + (1 : Int32))), (0, .ref (α 0)), (1, .int x1), (3, .int x3)] dX11_feastOf_101 rfl (congrArg _ ic_1) (by decide) rfl ?_
  refine rx_goto C (tgt := 51) dX11_feastOf_104 (by decide) ?_
  exact RX.loc (hk_51 x1 x3 (x4 + (1 : Int32)) σ) [1, 2, 3, 0] rfl
set_option maxRecDepth 100000 in
set_option maxHeartbeats 4000000 in
theorem w_X11_feastOf_51 {α : Nat → Nat} {D : va_G} {cA : Nat → ClassId} {z : Cz} (C : CX shM α D cA z RX11 cX11_feastOf 5 (some .int) 5 123) : ∀ (n : Nat) (x1 : Int32) (x3 : Int32) (x4 : Int32) (σ : St), RX emI shM α D cA z 5 σ 51 [(0, .ref (α 0)), (1, .int x1), (3, .int x3), (4, .int x4)] [] (f_X11_feastOf_51 n x1 x3 x4 σ) := by
  intro n
  induction n with
  | zero => intros; exact rx_none
  | succ n hk_51 =>
    intro x1 x3 x4 σ
    rw [f_X11_feastOf_51.eq_2]
    refine rx_iload C 3 dX11_feastOf_51 rfl ?_
    refine rx_aload_n C 0 dX11_feastOf_53 rfl rfl ?_
    refine rx_getC C (k := 20) sm_0 fc_X11 (by decide) 9 rfl lk_X11_73 dX11_feastOf_54 ?_
    refine rx_aload_n C 0 dX11_feastOf_57 rfl rfl ?_
    refine rx_getI C (k := 12) sm_0 fc_X11 (by decide) rfl lk_X11_48 dX11_feastOf_58 ?_
    refine rx_iald C (n := 2) sm_9 dX11_feastOf_61 (fun _ => ?_)
    refine rx_icmp_ge C (tgt := 107) dX11_feastOf_62 (by decide) (fun _ => ?_) (fun _ => ?_)
    · exact RX.loc (w_X11_feastOf_107 C σ) [] rfl
    · refine rx_iload_n C 2 dX11_feastOf_65 rfl rfl ?_
      refine rx_if_le C (tgt := 107) dX11_feastOf_66 (by decide) (fun _ => ?_) (fun _ => ?_)
      · exact RX.loc (w_X11_feastOf_107 C σ) [] rfl
      · refine rx_aload_n C 0 dX11_feastOf_69 rfl rfl ?_
        refine rx_iload_n C 1 dX11_feastOf_70 rfl rfl ?_
        refine rx_iload C 3 dX11_feastOf_71 rfl ?_
        refine rx_callVi C [.int x1, .int x4] [] (m_X11_canGain z.l C.inj x1 x4 σ) mv_X11_canGain lk_X11_521 sm_0 rfl rfl rfl (Nat.le_of_ble_eq_true rfl) ⟨Nat.le_of_ble_eq_true rfl, Nat.le_of_ble_eq_true rfl⟩ dX11_feastOf_73 (fun q7 => ?_)
        refine rx_if_ne C (tgt := 82) dX11_feastOf_76 (by decide) (fun _ => ?_) (fun _ => ?_)
        · refine rx_goto C (tgt := 101) dX11_feastOf_79 (by decide) ?_
          exact RX.loc (w_X11_feastOf_101 C (f_X11_feastOf_51 n) hk_51 x1 x3 x4 q7.2) [0, 1, 2, 3] rfl
        · refine rx_iinc C (k0 := 2) (v := x3 + (-1 : Int32)) [(3, .int (x3 + (-1 : Int32))), (0, .ref (α 0)), (1, .int x1), (4, .int x4)] dX11_feastOf_82 rfl (congrArg _ ic_m1) (by decide) rfl ?_
          refine rx_iload_n C 0 dX11_feastOf_85 rfl rfl ?_
          refine rx_if_le C (tgt := 92) dX11_feastOf_86 (by decide) (fun _ => ?_) (fun _ => ?_)
          · refine rx_aload_n C 1 dX11_feastOf_92 rfl rfl ?_
            refine rx_iload_n C 2 dX11_feastOf_93 rfl rfl ?_
            refine rx_iload C 3 dX11_feastOf_94 rfl ?_
            refine rx_callVv C [.int x1, .int x4] [] (m_X11_gains z.l C.inj x1 x4 q7.2) mv_X11_gains lk_X11_524 sm_0 rfl rfl rfl (Nat.le_of_ble_eq_true rfl) ⟨Nat.le_of_ble_eq_true rfl, Nat.le_of_ble_eq_true rfl⟩ dX11_feastOf_96 (fun q8 => ?_)
            refine rx_iconst C dX11_feastOf_99 ic_1 ?_
            exact rx_iret C dX11_feastOf_100
          · refine rx_goto C (tgt := 101) dX11_feastOf_89 (by decide) ?_
            exact RX.loc (w_X11_feastOf_101 C (f_X11_feastOf_51 n) hk_51 x1 (x3 + (-1 : Int32)) x4 q7.2) [1, 2, 0, 3] rfl
set_option maxRecDepth 100000 in
set_option maxHeartbeats 4000000 in
theorem w_X11_feastOf_32 {α : Nat → Nat} {D : va_G} {cA : Nat → ClassId} {z : Cz} (C : CX shM α D cA z RX11 cX11_feastOf 5 (some .int) 5 123) (k_4 : Int32 → Int32 → Int32 → St → Option (Int32 × St)) (hk_4 : ∀ (x1 : Int32) (x2 : Int32) (x3 : Int32) (σ : St), RX emI shM α D cA z 5 σ 4 [(0, .ref (α 0)), (1, .int x1), (2, .int x2), (3, .int x3)] [] (k_4 x1 x2 x3 σ)) (x1 : Int32) (x3 : Int32) (s1 : Int32) (s0 : Int32) (σ : St) : RX emI shM α D cA z 5 σ 32 [(0, .ref (α 0)), (1, .int x1), (3, .int x3)] [.int s1, .int s0] (f_X11_feastOf_32 k_4 x1 x3 s1 s0 σ) := by
  unfold f_X11_feastOf_32
  refine rx_iadd C dX11_feastOf_32 ?_
  refine rx_lti (fun w10 => ?_)
  refine rx_istore_n C [(2, .int w10), (0, .ref (α 0)), (1, .int x1), (3, .int x3)] dX11_feastOf_33 rfl (by decide) rfl ?_
  refine rx_iinc C (k0 := 3) (v := x3 + (1 : Int32)) [(3, .int (x3 + (1 : Int32))), (2, .int w10), (0, .ref (α 0)), (1, .int x1)] dX11_feastOf_34 rfl (congrArg _ ic_1) (by decide) rfl ?_
  refine rx_goto C (tgt := 4) dX11_feastOf_37 (by decide) ?_
  exact RX.loc (hk_4 x1 w10 (x3 + (1 : Int32)) σ) [2, 3, 1, 0] rfl
set_option maxRecDepth 100000 in
set_option maxHeartbeats 4000000 in
theorem w_X11_feastOf_4 {α : Nat → Nat} {D : va_G} {cA : Nat → ClassId} {z : Cz} (C : CX shM α D cA z RX11 cX11_feastOf 5 (some .int) 5 123) : ∀ (n : Nat) (x1 : Int32) (x2 : Int32) (x3 : Int32) (σ : St), RX emI shM α D cA z 5 σ 4 [(0, .ref (α 0)), (1, .int x1), (2, .int x2), (3, .int x3)] [] (f_X11_feastOf_4 n x1 x2 x3 σ) := by
  intro n
  induction n with
  | zero => intros; exact rx_none
  | succ n hk_4 =>
    intro x1 x2 x3 σ
    rw [f_X11_feastOf_4.eq_2]
    refine rx_iload_n C 3 dX11_feastOf_4 rfl rfl ?_
    refine rx_aload_n C 0 dX11_feastOf_5 rfl rfl ?_
    refine rx_getC C (k := 20) sm_0 fc_X11 (by decide) 9 rfl lk_X11_73 dX11_feastOf_6 ?_
    refine rx_aload_n C 0 dX11_feastOf_9 rfl rfl ?_
    refine rx_getI C (k := 12) sm_0 fc_X11 (by decide) rfl lk_X11_48 dX11_feastOf_10 ?_
    refine rx_iald C (n := 2) sm_9 dX11_feastOf_13 (fun _ => ?_)
    refine rx_icmp_ge C (tgt := 40) dX11_feastOf_14 (by decide) (fun _ => ?_) (fun _ => ?_)
    · refine rx_aload_n C 0 dX11_feastOf_40 rfl rfl ?_
      refine rx_iload_n C 2 dX11_feastOf_41 rfl rfl ?_
      refine rx_iconst C dX11_feastOf_42 ic_1 ?_
      refine rx_iadd C dX11_feastOf_43 ?_
      refine rx_callVi C [.int (x2 + (1 : Int32))] [] (m_X11_drawn z.l C.inj (x2 + (1 : Int32)) σ) mv_X11_drawn lk_X11_556 sm_0 rfl rfl rfl (Nat.le_of_ble_eq_true rfl) ⟨Nat.le_of_ble_eq_true rfl, Nat.le_of_ble_eq_true rfl⟩ dX11_feastOf_44 (fun q6 => ?_)
      refine rx_istore_n C [(3, .int q6.1), (0, .ref (α 0)), (1, .int x1), (2, .int x2)] dX11_feastOf_47 rfl (by decide) rfl ?_
      refine rx_iconst C dX11_feastOf_48 ic_0 ?_
      refine rx_istore C [(4, .int (0 : Int32)), (3, .int q6.1), (0, .ref (α 0)), (1, .int x1), (2, .int x2)] dX11_feastOf_49 (by decide) rfl ?_
      exact RX.loc (w_X11_feastOf_51 C FU x1 q6.1 (0 : Int32) q6.2) [2, 3, 1, 0] rfl
    · refine rx_iload_n C 2 dX11_feastOf_17 rfl rfl ?_
      refine rx_aload_n C 0 dX11_feastOf_18 rfl rfl ?_
      refine rx_iload_n C 1 dX11_feastOf_19 rfl rfl ?_
      refine rx_iload_n C 3 dX11_feastOf_20 rfl rfl ?_
      refine rx_callVi C [.int x1, .int x3] [.int x2] (m_X11_canGain z.l C.inj x1 x3 σ) mv_X11_canGain lk_X11_521 sm_0 rfl rfl rfl (Nat.le_of_ble_eq_true rfl) ⟨Nat.le_of_ble_eq_true rfl, Nat.le_of_ble_eq_true rfl⟩ dX11_feastOf_21 (fun q9 => ?_)
      refine rx_if_eq C (tgt := 31) dX11_feastOf_24 (by decide) (fun _ => ?_) (fun _ => ?_)
      · refine rx_iconst C dX11_feastOf_31 ic_0 ?_
        exact RX.loc (w_X11_feastOf_32 C (f_X11_feastOf_4 n) hk_4 x1 x3 (0 : Int32) x2 q9.2) [0, 1, 3] rfl
      · refine rx_iconst C dX11_feastOf_27 ic_1 ?_
        refine rx_goto C (tgt := 32) dX11_feastOf_28 (by decide) ?_
        exact RX.loc (w_X11_feastOf_32 C (f_X11_feastOf_4 n) hk_4 x1 x3 (1 : Int32) x2 q9.2) [0, 1, 3] rfl
set_option maxRecDepth 100000 in
set_option maxHeartbeats 4000000 in
theorem w_X11_feastOf_e {α : Nat → Nat} {D : va_G} {cA : Nat → ClassId} {z : Cz} (C : CX shM α D cA z RX11 cX11_feastOf 5 (some .int) 5 123) (x1 : Int32) (σ : St) : RX emI shM α D cA z 5 σ 0 [(0, .ref (α 0)), (1, .int x1)] [] (f_X11_feastOf x1 σ) := by
  unfold f_X11_feastOf
  refine rx_iconst C dX11_feastOf_0 ic_0 ?_
  refine rx_istore_n C [(2, .int (0 : Int32)), (0, .ref (α 0)), (1, .int x1)] dX11_feastOf_1 rfl (by decide) rfl ?_
  refine rx_iconst C dX11_feastOf_2 ic_0 ?_
  refine rx_istore_n C [(3, .int (0 : Int32)), (2, .int (0 : Int32)), (0, .ref (α 0)), (1, .int x1)] dX11_feastOf_3 rfl (by decide) rfl ?_
  exact RX.loc (w_X11_feastOf_4 C FU x1 (0 : Int32) (0 : Int32) σ) [2, 3, 1, 0] rfl
theorem m_X11_feastOf (l : Launch) {α : Nat → Nat} {D : va_G} {cA : Nat → ClassId} (hin : inj shM.length α) (x1 : Int32) (σ : St) : CT shM l yX11_feastOf cX11_feastOf 5 (some .int) 5 123 emI α D cA [.ref (α 0), .int x1] σ (f_X11_feastOf x1 σ) := ct_of rfl (Nat.le_of_ble_eq_true rfl) hin (fun z _ C => w_X11_feastOf_e C x1 σ)
set_option maxRecDepth 100000 in
set_option maxHeartbeats 4000000 in
theorem w_X11_feast_4 {α : Nat → Nat} {D : va_G} {cA : Nat → ClassId} {z : Cz} (C : CX shM α D cA z RX11 cX11_feast 3 (some .int) 6 147) : ∀ (n : Nat) (x1 : Int32) (x2 : Int32) (σ : St), RX emI shM α D cA z 3 σ 4 [(0, .ref (α 0)), (1, .int x1), (2, .int x2)] [] (f_X11_feast_4 n x1 x2 σ) := by
  intro n
  induction n with
  | zero => intros; exact rx_none
  | succ n hk_4 =>
    intro x1 x2 σ
    rw [f_X11_feast_4.eq_2]
    refine rx_iload_n C 2 dX11_feast_4 rfl rfl ?_
    refine rx_aload_n C 0 dX11_feast_5 rfl rfl ?_
    refine rx_getC C (k := 14) sm_0 fc_X11 (by decide) 3 rfl lk_X11_54 dX11_feast_6 ?_
    refine rx_aload_n C 0 dX11_feast_9 rfl rfl ?_
    refine rx_getI C (k := 12) sm_0 fc_X11 (by decide) rfl lk_X11_48 dX11_feast_10 ?_
    refine rx_iald C (n := 2) sm_3 dX11_feast_13 (fun _ => ?_)
    refine rx_icmp_ge C (tgt := 31) dX11_feast_14 (by decide) (fun _ => ?_) (fun _ => ?_)
    · refine rx_iload_n C 1 dX11_feast_31 rfl rfl ?_
      exact rx_iret C dX11_feast_32
    · refine rx_iload_n C 1 dX11_feast_17 rfl rfl ?_
      refine rx_aload_n C 0 dX11_feast_18 rfl rfl ?_
      refine rx_iload_n C 2 dX11_feast_19 rfl rfl ?_
      refine rx_callVi C [.int x2] [.int x1] (m_X11_feastOf z.l C.inj x2 σ) mv_X11_feastOf lk_X11_559 sm_0 rfl rfl rfl (Nat.le_of_ble_eq_true rfl) ⟨Nat.le_of_ble_eq_true rfl, Nat.le_of_ble_eq_true rfl⟩ dX11_feast_20 (fun q3 => ?_)
      refine rx_iadd C dX11_feast_23 ?_
      refine rx_lti (fun w4 => ?_)
      refine rx_istore_n C [(1, .int w4), (0, .ref (α 0)), (2, .int x2)] dX11_feast_24 rfl (by decide) rfl ?_
      refine rx_iinc C (k0 := 2) (v := x2 + (1 : Int32)) [(2, .int (x2 + (1 : Int32))), (1, .int w4), (0, .ref (α 0))] dX11_feast_25 rfl (congrArg _ ic_1) (by decide) rfl ?_
      refine rx_goto C (tgt := 4) dX11_feast_28 (by decide) ?_
      exact RX.loc (hk_4 w4 (x2 + (1 : Int32)) q3.2) [2, 1, 0] rfl
set_option maxRecDepth 100000 in
set_option maxHeartbeats 4000000 in
theorem w_X11_feast_e {α : Nat → Nat} {D : va_G} {cA : Nat → ClassId} {z : Cz} (C : CX shM α D cA z RX11 cX11_feast 3 (some .int) 6 147) (σ : St) : RX emI shM α D cA z 3 σ 0 [(0, .ref (α 0))] [] (f_X11_feast σ) := by
  unfold f_X11_feast
  refine rx_iconst C dX11_feast_0 ic_0 ?_
  refine rx_istore_n C [(1, .int (0 : Int32)), (0, .ref (α 0))] dX11_feast_1 rfl (by decide) rfl ?_
  refine rx_iconst C dX11_feast_2 ic_0 ?_
  refine rx_istore_n C [(2, .int (0 : Int32)), (1, .int (0 : Int32)), (0, .ref (α 0))] dX11_feast_3 rfl (by decide) rfl ?_
  exact RX.loc (w_X11_feast_4 C FU (0 : Int32) (0 : Int32) σ) [2, 1, 0] rfl
theorem m_X11_feast (l : Launch) {α : Nat → Nat} {D : va_G} {cA : Nat → ClassId} (hin : inj shM.length α) (σ : St) : CT shM l yX11_feast cX11_feast 3 (some .int) 6 147 emI α D cA [.ref (α 0)] σ (f_X11_feast σ) := ct_of rfl (Nat.le_of_ble_eq_true rfl) hin (fun z _ C => w_X11_feast_e C σ)
set_option maxRecDepth 100000 in
set_option maxHeartbeats 4000000 in
theorem w_X11_seed_17 {α : Nat → Nat} {D : va_G} {cA : Nat → ClassId} {z : Cz} (C : CX shM α D cA z RX11 cX11_seed 2 (some .boolean) 1 21) (s0 : Int32) (σ : St) : RX emI shM α D cA z 2 σ 17 [] [.int s0] (f_X11_seed_17 s0 σ) := by
  unfold f_X11_seed_17
  exact rx_zret C dX11_seed_17
set_option maxRecDepth 100000 in
set_option maxHeartbeats 4000000 in
theorem w_X11_seed_e {α : Nat → Nat} {D : va_G} {cA : Nat → ClassId} {z : Cz} (C : CX shM α D cA z RX11 cX11_seed 2 (some .boolean) 1 21) (x1 : Int32) (σ : St) : RX emI shM α D cA z 2 σ 0 [(0, .ref (α 0)), (1, .int x1)] [] (f_X11_seed x1 σ) := by
  unfold f_X11_seed
  refine rx_iload_n C 1 dX11_seed_0 rfl rfl ?_
  refine rx_if_ge C (tgt := 18) dX11_seed_1 (by decide) (fun _ => ?_) (fun _ => ?_)
  · refine rx_aload_n C 0 dX11_seed_18 rfl rfl ?_
    refine rx_iload_n C 1 dX11_seed_19 rfl rfl ?_
    refine rx_i2l C dX11_seed_20 ?_
    refine rx_putL C (k := 67) sm_0 fc_X11 (by decide) rfl lk_X11_216 rfl ⟨rfl, rfl⟩ dX11_seed_21 ?_
    refine rx_lts (fun σ3 => ?_)
    refine rx_iconst C dX11_seed_24 ic_1 ?_
    exact rx_zretC C dX11_seed_25 rfl
  · refine rx_aload_n C 0 dX11_seed_4 rfl rfl ?_
    refine rx_iconst C dX11_seed_5 ic_4 ?_
    refine rx_callVi C [.int (4 : Int32)] [] (m_X11_refuses z.l C.inj (4 : Int32) σ) mv_X11_refuses lk_X11_234 sm_0 rfl rfl rfl (Nat.le_of_ble_eq_true rfl) ⟨Nat.le_of_ble_eq_true rfl, Nat.le_of_ble_eq_true rfl⟩ dX11_seed_6 (fun q4 => ?_)
    refine rx_if_lt C (tgt := 16) dX11_seed_9 (by decide) (fun _ => ?_) (fun _ => ?_)
    · refine rx_iconst C dX11_seed_16 ic_0 ?_
      exact RX.loc (w_X11_seed_17 C (0 : Int32) q4.2) [] rfl
    · refine rx_iconst C dX11_seed_12 ic_1 ?_
      refine rx_goto C (tgt := 17) dX11_seed_13 (by decide) ?_
      exact RX.loc (w_X11_seed_17 C (1 : Int32) q4.2) [] rfl
theorem m_X11_seed (l : Launch) {α : Nat → Nat} {D : va_G} {cA : Nat → ClassId} (hin : inj shM.length α) (x1 : Int32) (σ : St) : CT shM l yX11_seed cX11_seed 2 (some .boolean) 1 21 emI α D cA [.ref (α 0), .int x1] σ (f_X11_seed x1 σ) := ct_of rfl (Nat.le_of_ble_eq_true rfl) hin (fun z _ C => w_X11_seed_e C x1 σ)
set_option maxRecDepth 100000 in
set_option maxHeartbeats 4000000 in
theorem w_X11_signed_19 {α : Nat → Nat} {D : va_G} {cA : Nat → ClassId} {z : Cz} (C : CX shM α D cA z RX11 cX11_signed 5 (some .int) 2 43) (σ : St) : RX emI shM α D cA z 5 σ 19 [] [] (f_X11_signed_19 σ) := by
  unfold f_X11_signed_19
  refine rx_iconst C dX11_signed_19 ic_m1 ?_
  exact rx_iret C dX11_signed_20
set_option maxRecDepth 100000 in
set_option maxHeartbeats 4000000 in
theorem w_X11_signed_164 {α : Nat → Nat} {D : va_G} {cA : Nat → ClassId} {z : Cz} (C : CX shM α D cA z RX11 cX11_signed 5 (some .int) 2 43) (k_94 : Int32 → Int32 → Int32 → Int32 → St → Option (Int32 × St)) (hk_94 : ∀ (x1 : Int32) (x2 : Int32) (x3 : Int32) (x4 : Int32) (σ : St), RX emI shM α D cA z 5 σ 94 [(0, .ref (α 0)), (1, .int x1), (2, .int x2), (3, .int x3), (4, .int x4)] [] (k_94 x1 x2 x3 x4 σ)) (x1 : Int32) (x2 : Int32) (x4 : Int32) (s1 : Int32) (s0 : Int32) (σ : St) : RX emI shM α D cA z 5 σ 164 [(0, .ref (α 0)), (1, .int x1), (2, .int x2), (4, .int x4)] [.int s1, .int s0] (f_X11_signed_164 k_94 x1 x2 x4 s1 s0 σ) := by
  unfold f_X11_signed_164
  refine rx_ior C dX11_signed_164 ?_
  refine rx_lti (fun w8 => ?_)
  refine rx_istore_n C [(3, .int w8), (0, .ref (α 0)), (1, .int x1), (2, .int x2), (4, .int x4)] dX11_signed_165 rfl (by decide) rfl ?_
  refine rx_iinc C (k0 := 4) (v := x4 + (1 : Int32)) [(4, .int (x4 + (1 : Int32))), (3, .int w8), (0, .ref (α 0)), (1, .int x1), (2, .int x2)] dX11_signed_166 rfl (congrArg _ ic_1) (by decide) rfl ?_
  refine rx_goto C (tgt := 94) dX11_signed_169 (by decide) ?_
  exact RX.loc (hk_94 x1 x2 w8 (x4 + (1 : Int32)) σ) [2, 3, 4, 1, 0] rfl
set_option maxRecDepth 100000 in
set_option maxHeartbeats 4000000 in
theorem w_X11_signed_163 {α : Nat → Nat} {D : va_G} {cA : Nat → ClassId} {z : Cz} (C : CX shM α D cA z RX11 cX11_signed 5 (some .int) 2 43) (k_94 : Int32 → Int32 → Int32 → Int32 → St → Option (Int32 × St)) (hk_94 : ∀ (x1 : Int32) (x2 : Int32) (x3 : Int32) (x4 : Int32) (σ : St), RX emI shM α D cA z 5 σ 94 [(0, .ref (α 0)), (1, .int x1), (2, .int x2), (3, .int x3), (4, .int x4)] [] (k_94 x1 x2 x3 x4 σ)) (x1 : Int32) (x2 : Int32) (x4 : Int32) (s0 : Int32) (σ : St) : RX emI shM α D cA z 5 σ 163 [(0, .ref (α 0)), (1, .int x1), (2, .int x2), (4, .int x4)] [.int s0] (f_X11_signed_163 k_94 x1 x2 x4 s0 σ) := by
  unfold f_X11_signed_163
  refine rx_iconst C dX11_signed_163 ic_0 ?_
  exact RX.loc (w_X11_signed_164 C k_94 hk_94 x1 x2 x4 (0 : Int32) s0 σ) [0, 1, 2, 3] rfl
set_option maxRecDepth 100000 in
set_option maxHeartbeats 4000000 in
theorem w_X11_signed_94 {α : Nat → Nat} {D : va_G} {cA : Nat → ClassId} {z : Cz} (C : CX shM α D cA z RX11 cX11_signed 5 (some .int) 2 43) : ∀ (n : Nat) (x1 : Int32) (x2 : Int32) (x3 : Int32) (x4 : Int32) (σ : St), RX emI shM α D cA z 5 σ 94 [(0, .ref (α 0)), (1, .int x1), (2, .int x2), (3, .int x3), (4, .int x4)] [] (f_X11_signed_94 n x1 x2 x3 x4 σ) := by
  intro n
  induction n with
  | zero => intros; exact rx_none
  | succ n hk_94 =>
    intro x1 x2 x3 x4 σ
    rw [f_X11_signed_94.eq_2]
    refine rx_iload C 4 dX11_signed_94 rfl ?_
    refine rx_aload_n C 0 dX11_signed_96 rfl rfl ?_
    refine rx_getI C (k := 64) sm_0 fc_X11 (by decide) rfl lk_X11_207 dX11_signed_97 ?_
    refine rx_icmp_ge C (tgt := 172) dX11_signed_100 (by decide) (fun _ => ?_) (fun _ => ?_)
    · refine rx_iload_n C 3 dX11_signed_172 rfl rfl ?_
      exact rx_iret C dX11_signed_173
    · refine rx_iload_n C 3 dX11_signed_103 rfl rfl ?_
      refine rx_aload_n C 0 dX11_signed_104 rfl rfl ?_
      refine rx_getC C (k := 65) sm_0 fc_X11 (by decide) 42 rfl lk_X11_210 dX11_signed_105 ?_
      refine rx_iconst C dX11_signed_108 ic_4 ?_
      refine rx_iload C 4 dX11_signed_109 rfl ?_
      refine rx_imul C dX11_signed_111 ?_
      refine rx_iconst C dX11_signed_112 ic_1 ?_
      refine rx_iadd C dX11_signed_113 ?_
      refine rx_iald C (n := 320) sm_42 dX11_signed_114 (fun _ => ?_)
      refine rx_iload_n C 1 dX11_signed_115 rfl rfl ?_
      refine rx_icmp_ne C (tgt := 163) dX11_signed_116 (by decide) (fun _ => ?_) (fun _ => ?_)
      · refine rx_aload_n C 0 dX11_signed_119 rfl rfl ?_
        refine rx_getC C (k := 65) sm_0 fc_X11 (by decide) 42 rfl lk_X11_210 dX11_signed_120 ?_
        refine rx_iconst C dX11_signed_123 ic_4 ?_
        refine rx_iload C 4 dX11_signed_124 rfl ?_
        refine rx_imul C dX11_signed_126 ?_
        refine rx_iconst C dX11_signed_127 ic_2 ?_
        refine rx_iadd C dX11_signed_128 ?_
        refine rx_iald C (n := 320) sm_42 dX11_signed_129 (fun _ => ?_)
        refine rx_iload_n C 2 dX11_signed_130 rfl rfl ?_
        refine rx_icmp_gt C (tgt := 163) dX11_signed_131 (by decide) (fun _ => ?_) (fun _ => ?_)
        · exact RX.loc (w_X11_signed_163 C (f_X11_signed_94 n) hk_94 x1 x2 x4 x3 σ) [0, 1, 2, 4] rfl
        · refine rx_iload_n C 2 dX11_signed_134 rfl rfl ?_
          refine rx_aload_n C 0 dX11_signed_135 rfl rfl ?_
          refine rx_getC C (k := 65) sm_0 fc_X11 (by decide) 42 rfl lk_X11_210 dX11_signed_136 ?_
          refine rx_iconst C dX11_signed_139 ic_4 ?_
          refine rx_iload C 4 dX11_signed_140 rfl ?_
          refine rx_imul C dX11_signed_142 ?_
          refine rx_iconst C dX11_signed_143 ic_3 ?_
          refine rx_iadd C dX11_signed_144 ?_
          refine rx_iald C (n := 320) sm_42 dX11_signed_145 (fun _ => ?_)
          refine rx_icmp_gt C (tgt := 163) dX11_signed_146 (by decide) (fun _ => ?_) (fun _ => ?_)
          · exact RX.loc (w_X11_signed_163 C (f_X11_signed_94 n) hk_94 x1 x2 x4 x3 σ) [0, 1, 2, 4] rfl
          · refine rx_iconst C dX11_signed_149 ic_1 ?_
            refine rx_aload_n C 0 dX11_signed_150 rfl rfl ?_
            refine rx_getC C (k := 65) sm_0 fc_X11 (by decide) 42 rfl lk_X11_210 dX11_signed_151 ?_
            refine rx_iconst C dX11_signed_154 ic_4 ?_
            refine rx_iload C 4 dX11_signed_155 rfl ?_
            refine rx_imul C dX11_signed_157 ?_
            refine rx_iald C (n := 320) sm_42 dX11_signed_158 (fun _ => ?_)
            refine rx_ishl C dX11_signed_159 ?_
            refine rx_goto C (tgt := 164) dX11_signed_160 (by decide) ?_
            exact RX.loc (w_X11_signed_164 C (f_X11_signed_94 n) hk_94 x1 x2 x4 ((1 : Int32) <<< ((gI σ 42 (ix ((4 : Int32) * x4))) &&& 31)) x3 σ) [0, 1, 2, 4] rfl
      · exact RX.loc (w_X11_signed_163 C (f_X11_signed_94 n) hk_94 x1 x2 x4 x3 σ) [0, 1, 2, 4] rfl
set_option maxRecDepth 100000 in
set_option maxHeartbeats 4000000 in
theorem w_X11_signed_83 {α : Nat → Nat} {D : va_G} {cA : Nat → ClassId} {z : Cz} (C : CX shM α D cA z RX11 cX11_signed 5 (some .int) 2 43) (k_26 : Int32 → Int32 → Int32 → Int32 → St → Option (Int32 × St)) (hk_26 : ∀ (x1 : Int32) (x2 : Int32) (x3 : Int32) (x4 : Int32) (σ : St), RX emI shM α D cA z 5 σ 26 [(0, .ref (α 0)), (1, .int x1), (2, .int x2), (3, .int x3), (4, .int x4)] [] (k_26 x1 x2 x3 x4 σ)) (x1 : Int32) (x2 : Int32) (x4 : Int32) (s1 : Int32) (s0 : Int32) (σ : St) : RX emI shM α D cA z 5 σ 83 [(0, .ref (α 0)), (1, .int x1), (2, .int x2), (4, .int x4)] [.int s1, .int s0] (f_X11_signed_83 k_26 x1 x2 x4 s1 s0 σ) := by
  unfold f_X11_signed_83
  refine rx_ior C dX11_signed_83 ?_
  refine rx_lti (fun w10 => ?_)
  refine rx_istore_n C [(3, .int w10), (0, .ref (α 0)), (1, .int x1), (2, .int x2), (4, .int x4)] dX11_signed_84 rfl (by decide) rfl ?_
  refine rx_iinc C (k0 := 4) (v := x4 + (1 : Int32)) [(4, .int (x4 + (1 : Int32))), (3, .int w10), (0, .ref (α 0)), (1, .int x1), (2, .int x2)] dX11_signed_85 rfl (congrArg _ ic_1) (by decide) rfl ?_
  refine rx_goto C (tgt := 26) dX11_signed_88 (by decide) ?_
  exact RX.loc (hk_26 x1 x2 w10 (x4 + (1 : Int32)) σ) [2, 3, 4, 1, 0] rfl
set_option maxRecDepth 100000 in
set_option maxHeartbeats 4000000 in
theorem w_X11_signed_82 {α : Nat → Nat} {D : va_G} {cA : Nat → ClassId} {z : Cz} (C : CX shM α D cA z RX11 cX11_signed 5 (some .int) 2 43) (k_26 : Int32 → Int32 → Int32 → Int32 → St → Option (Int32 × St)) (hk_26 : ∀ (x1 : Int32) (x2 : Int32) (x3 : Int32) (x4 : Int32) (σ : St), RX emI shM α D cA z 5 σ 26 [(0, .ref (α 0)), (1, .int x1), (2, .int x2), (3, .int x3), (4, .int x4)] [] (k_26 x1 x2 x3 x4 σ)) (x1 : Int32) (x2 : Int32) (x4 : Int32) (s0 : Int32) (σ : St) : RX emI shM α D cA z 5 σ 82 [(0, .ref (α 0)), (1, .int x1), (2, .int x2), (4, .int x4)] [.int s0] (f_X11_signed_82 k_26 x1 x2 x4 s0 σ) := by
  unfold f_X11_signed_82
  refine rx_iconst C dX11_signed_82 ic_0 ?_
  exact RX.loc (w_X11_signed_83 C k_26 hk_26 x1 x2 x4 (0 : Int32) s0 σ) [0, 1, 2, 3] rfl
set_option maxRecDepth 100000 in
set_option maxHeartbeats 4000000 in
theorem w_X11_signed_26 {α : Nat → Nat} {D : va_G} {cA : Nat → ClassId} {z : Cz} (C : CX shM α D cA z RX11 cX11_signed 5 (some .int) 2 43) : ∀ (n : Nat) (x1 : Int32) (x2 : Int32) (x3 : Int32) (x4 : Int32) (σ : St), RX emI shM α D cA z 5 σ 26 [(0, .ref (α 0)), (1, .int x1), (2, .int x2), (3, .int x3), (4, .int x4)] [] (f_X11_signed_26 n x1 x2 x3 x4 σ) := by
  intro n
  induction n with
  | zero => intros; exact rx_none
  | succ n hk_26 =>
    intro x1 x2 x3 x4 σ
    rw [f_X11_signed_26.eq_2]
    refine rx_iload C 4 dX11_signed_26 rfl ?_
    refine rx_aload_n C 0 dX11_signed_28 rfl rfl ?_
    refine rx_getC C (k := 14) sm_0 fc_X11 (by decide) 3 rfl lk_X11_54 dX11_signed_29 ?_
    refine rx_aload_n C 0 dX11_signed_32 rfl rfl ?_
    refine rx_getI C (k := 12) sm_0 fc_X11 (by decide) rfl lk_X11_48 dX11_signed_33 ?_
    refine rx_iald C (n := 2) sm_3 dX11_signed_36 (fun _ => ?_)
    refine rx_icmp_ge C (tgt := 91) dX11_signed_37 (by decide) (fun _ => ?_) (fun _ => ?_)
    · refine rx_iconst C dX11_signed_91 ic_0 ?_
      refine rx_istore C [(4, .int (0 : Int32)), (0, .ref (α 0)), (1, .int x1), (2, .int x2), (3, .int x3)] dX11_signed_92 (by decide) rfl ?_
      exact RX.loc (w_X11_signed_94 C FU x1 x2 x3 (0 : Int32) σ) [1, 2, 3, 4, 0] rfl
    · refine rx_iload_n C 3 dX11_signed_40 rfl rfl ?_
      refine rx_aload_n C 0 dX11_signed_41 rfl rfl ?_
      refine rx_iload C 4 dX11_signed_42 rfl ?_
      refine rx_iload_n C 1 dX11_signed_44 rfl rfl ?_
      refine rx_callVi C [.int x4, .int x1] [.int x3] (m_X11_hasTitle z.l C.inj x4 x1 σ) mv_X11_hasTitle lk_X11_470 sm_0 rfl rfl rfl (Nat.le_of_ble_eq_true rfl) ⟨Nat.le_of_ble_eq_true rfl, Nat.le_of_ble_eq_true rfl⟩ dX11_signed_45 (fun q9 => ?_)
      refine rx_if_eq C (tgt := 82) dX11_signed_48 (by decide) (fun _ => ?_) (fun _ => ?_)
      · exact RX.loc (w_X11_signed_82 C (f_X11_signed_26 n) hk_26 x1 x2 x4 x3 q9.2) [0, 1, 2, 4] rfl
      · refine rx_aload_n C 0 dX11_signed_51 rfl rfl ?_
        refine rx_getC C (k := 66) sm_0 fc_X11 (by decide) 43 rfl lk_X11_213 dX11_signed_52 ?_
        refine rx_bipush C dX11_signed_55 bp_12 ?_
        refine rx_iload C 4 dX11_signed_57 rfl ?_
        refine rx_imul C dX11_signed_59 ?_
        refine rx_iload_n C 1 dX11_signed_60 rfl rfl ?_
        refine rx_iadd C dX11_signed_61 ?_
        refine rx_iald C (n := 96) sm_43 dX11_signed_62 (fun _ => ?_)
        refine rx_iload_n C 2 dX11_signed_63 rfl rfl ?_
        refine rx_icmp_gt C (tgt := 82) dX11_signed_64 (by decide) (fun _ => ?_) (fun _ => ?_)
        · exact RX.loc (w_X11_signed_82 C (f_X11_signed_26 n) hk_26 x1 x2 x4 x3 q9.2) [0, 1, 2, 4] rfl
        · refine rx_iload_n C 2 dX11_signed_67 rfl rfl ?_
          refine rx_aload_n C 0 dX11_signed_68 rfl rfl ?_
          refine rx_getI C (k := 52) sm_0 fc_X11 (by decide) rfl lk_X11_171 dX11_signed_69 ?_
          refine rx_icmp_gt C (tgt := 82) dX11_signed_72 (by decide) (fun _ => ?_) (fun _ => ?_)
          · exact RX.loc (w_X11_signed_82 C (f_X11_signed_26 n) hk_26 x1 x2 x4 x3 q9.2) [0, 1, 2, 4] rfl
          · refine rx_iconst C dX11_signed_75 ic_1 ?_
            refine rx_iload C 4 dX11_signed_76 rfl ?_
            refine rx_ishl C dX11_signed_78 ?_
            refine rx_goto C (tgt := 83) dX11_signed_79 (by decide) ?_
            exact RX.loc (w_X11_signed_83 C (f_X11_signed_26 n) hk_26 x1 x2 x4 ((1 : Int32) <<< (x4 &&& 31)) x3 q9.2) [0, 1, 2, 4] rfl
set_option maxRecDepth 100000 in
set_option maxHeartbeats 4000000 in
theorem w_X11_signed_e {α : Nat → Nat} {D : va_G} {cA : Nat → ClassId} {z : Cz} (C : CX shM α D cA z RX11 cX11_signed 5 (some .int) 2 43) (x1 : Int32) (x2 : Int32) (σ : St) : RX emI shM α D cA z 5 σ 0 [(0, .ref (α 0)), (1, .int x1), (2, .int x2)] [] (f_X11_signed x1 x2 σ) := by
  unfold f_X11_signed
  refine rx_aload_n C 0 dX11_signed_0 rfl rfl ?_
  refine rx_iload_n C 1 dX11_signed_1 rfl rfl ?_
  refine rx_callVi C [.int x1] [] (m_X11_isTitle z.l C.inj x1 σ) mv_X11_isTitle lk_X11_467 sm_0 rfl rfl rfl (Nat.le_of_ble_eq_true rfl) ⟨Nat.le_of_ble_eq_true rfl, Nat.le_of_ble_eq_true rfl⟩ dX11_signed_2 (fun q6 => ?_)
  refine rx_if_eq C (tgt := 19) dX11_signed_5 (by decide) (fun _ => ?_) (fun _ => ?_)
  · exact RX.loc (w_X11_signed_19 C q6.2) [] rfl
  · refine rx_iload_n C 2 dX11_signed_8 rfl rfl ?_
    refine rx_iconst C dX11_signed_9 ic_0 ?_
    refine rx_sipush C dX11_signed_10 sp_999 ?_
    refine rx_callSi C [.int x2, .int (0 : Int32), .int (999 : Int32)] [] (m_X11_is z.l C.inj x2 (0 : Int32) (999 : Int32) q6.2) ms_X11_is lk_X11_309 rfl rfl (Nat.le_of_ble_eq_true rfl) ⟨Nat.le_of_ble_eq_true rfl, Nat.le_of_ble_eq_true rfl⟩ dX11_signed_13 (fun q7 => ?_)
    refine rx_if_ne C (tgt := 21) dX11_signed_16 (by decide) (fun _ => ?_) (fun _ => ?_)
    · exact RX.loc (w_X11_signed_19 C q7.2) [] rfl
    · refine rx_iconst C dX11_signed_21 ic_0 ?_
      refine rx_istore_n C [(3, .int (0 : Int32)), (0, .ref (α 0)), (1, .int x1), (2, .int x2)] dX11_signed_22 rfl (by decide) rfl ?_
      refine rx_iconst C dX11_signed_23 ic_0 ?_
      refine rx_istore C [(4, .int (0 : Int32)), (3, .int (0 : Int32)), (0, .ref (α 0)), (1, .int x1), (2, .int x2)] dX11_signed_24 (by decide) rfl ?_
      exact RX.loc (w_X11_signed_26 C FU x1 x2 (0 : Int32) (0 : Int32) q7.2) [2, 3, 4, 1, 0] rfl
theorem m_X11_signed (l : Launch) {α : Nat → Nat} {D : va_G} {cA : Nat → ClassId} (hin : inj shM.length α) (x1 : Int32) (x2 : Int32) (σ : St) : CT shM l yX11_signed cX11_signed 5 (some .int) 2 43 emI α D cA [.ref (α 0), .int x1, .int x2] σ (f_X11_signed x1 x2 σ) := ct_of rfl (Nat.le_of_ble_eq_true rfl) hin (fun z _ C => w_X11_signed_e C x1 x2 σ)
set_option maxRecDepth 100000 in
set_option maxHeartbeats 4000000 in
theorem w_X11_span_37 {α : Nat → Nat} {D : va_G} {cA : Nat → ClassId} {z : Cz} (C : CX shM α D cA z RX11 cX11_span 3 (some .int) 1 22) (s0 : Int32) (σ : St) : RX emI shM α D cA z 3 σ 37 [] [.int s0] (f_X11_span_37 s0 σ) := by
  unfold f_X11_span_37
  exact rx_iret C dX11_span_37
set_option maxRecDepth 100000 in
set_option maxHeartbeats 4000000 in
theorem w_X11_span_36 {α : Nat → Nat} {D : va_G} {cA : Nat → ClassId} {z : Cz} (C : CX shM α D cA z RX11 cX11_span 3 (some .int) 1 22) (σ : St) : RX emI shM α D cA z 3 σ 36 [] [] (f_X11_span_36 σ) := by
  unfold f_X11_span_36
  refine rx_iconst C dX11_span_36 ic_m1 ?_
  exact RX.loc (w_X11_span_37 C (-1 : Int32) σ) [] rfl
set_option maxRecDepth 100000 in
set_option maxHeartbeats 4000000 in
theorem w_X11_span_e {α : Nat → Nat} {D : va_G} {cA : Nat → ClassId} {z : Cz} (C : CX shM α D cA z RX11 cX11_span 3 (some .int) 1 22) (x1 : Int32) (x2 : Int32) (σ : St) : RX emI shM α D cA z 3 σ 0 [(0, .ref (α 0)), (1, .int x1), (2, .int x2)] [] (f_X11_span x1 x2 σ) := by
  unfold f_X11_span
  refine rx_iload_n C 1 dX11_span_0 rfl rfl ?_
  refine rx_iconst C dX11_span_1 ic_0 ?_
  refine rx_aload_n C 0 dX11_span_2 rfl rfl ?_
  refine rx_getI C (k := 64) sm_0 fc_X11 (by decide) rfl lk_X11_207 dX11_span_3 ?_
  refine rx_iconst C dX11_span_6 ic_1 ?_
  refine rx_isub C dX11_span_7 ?_
  refine rx_callSi C [.int x1, .int (0 : Int32), .int ((gI σ 0 64) - (1 : Int32))] [] (m_X11_is z.l C.inj x1 (0 : Int32) ((gI σ 0 64) - (1 : Int32)) σ) ms_X11_is lk_X11_309 rfl rfl (Nat.le_of_ble_eq_true rfl) ⟨Nat.le_of_ble_eq_true rfl, Nat.le_of_ble_eq_true rfl⟩ dX11_span_8 (fun q3 => ?_)
  refine rx_if_eq C (tgt := 36) dX11_span_11 (by decide) (fun _ => ?_) (fun _ => ?_)
  · exact RX.loc (w_X11_span_36 C q3.2) [] rfl
  · refine rx_iload_n C 2 dX11_span_14 rfl rfl ?_
    refine rx_iconst C dX11_span_15 ic_0 ?_
    refine rx_iconst C dX11_span_16 ic_3 ?_
    refine rx_callSi C [.int x2, .int (0 : Int32), .int (3 : Int32)] [] (m_X11_is z.l C.inj x2 (0 : Int32) (3 : Int32) q3.2) ms_X11_is lk_X11_309 rfl rfl (Nat.le_of_ble_eq_true rfl) ⟨Nat.le_of_ble_eq_true rfl, Nat.le_of_ble_eq_true rfl⟩ dX11_span_17 (fun q4 => ?_)
    refine rx_if_eq C (tgt := 36) dX11_span_20 (by decide) (fun _ => ?_) (fun _ => ?_)
    · exact RX.loc (w_X11_span_36 C q4.2) [] rfl
    · refine rx_aload_n C 0 dX11_span_23 rfl rfl ?_
      refine rx_getC C (k := 65) sm_0 fc_X11 (by decide) 42 rfl lk_X11_210 dX11_span_24 ?_
      refine rx_iconst C dX11_span_27 ic_4 ?_
      refine rx_iload_n C 1 dX11_span_28 rfl rfl ?_
      refine rx_imul C dX11_span_29 ?_
      refine rx_iload_n C 2 dX11_span_30 rfl rfl ?_
      refine rx_iadd C dX11_span_31 ?_
      refine rx_iald C (n := 320) sm_42 dX11_span_32 (fun _ => ?_)
      refine rx_goto C (tgt := 37) dX11_span_33 (by decide) ?_
      exact RX.loc (w_X11_span_37 C (gI q4.2 42 (ix (((4 : Int32) * x1) + x2))) q4.2) [] rfl
theorem m_X11_span (l : Launch) {α : Nat → Nat} {D : va_G} {cA : Nat → ClassId} (hin : inj shM.length α) (x1 : Int32) (x2 : Int32) (σ : St) : CT shM l yX11_span cX11_span 3 (some .int) 1 22 emI α D cA [.ref (α 0), .int x1, .int x2] σ (f_X11_span x1 x2 σ) := ct_of rfl (Nat.le_of_ble_eq_true rfl) hin (fun z _ C => w_X11_span_e C x1 x2 σ)
set_option maxRecDepth 100000 in
set_option maxHeartbeats 4000000 in
theorem w_X11_moved_37 {α : Nat → Nat} {D : va_G} {cA : Nat → ClassId} {z : Cz} (C : CX shM α D cA z RX11 cX11_moved 3 (some .int) 1 22) (s0 : Int32) (σ : St) : RX emI shM α D cA z 3 σ 37 [] [.int s0] (f_X11_moved_37 s0 σ) := by
  unfold f_X11_moved_37
  exact rx_iret C dX11_moved_37
set_option maxRecDepth 100000 in
set_option maxHeartbeats 4000000 in
theorem w_X11_moved_36 {α : Nat → Nat} {D : va_G} {cA : Nat → ClassId} {z : Cz} (C : CX shM α D cA z RX11 cX11_moved 3 (some .int) 1 22) (σ : St) : RX emI shM α D cA z 3 σ 36 [] [] (f_X11_moved_36 σ) := by
  unfold f_X11_moved_36
  refine rx_iconst C dX11_moved_36 ic_m1 ?_
  exact RX.loc (w_X11_moved_37 C (-1 : Int32) σ) [] rfl
set_option maxRecDepth 100000 in
set_option maxHeartbeats 4000000 in
theorem w_X11_moved_e {α : Nat → Nat} {D : va_G} {cA : Nat → ClassId} {z : Cz} (C : CX shM α D cA z RX11 cX11_moved 3 (some .int) 1 22) (x1 : Int32) (x2 : Int32) (σ : St) : RX emI shM α D cA z 3 σ 0 [(0, .ref (α 0)), (1, .int x1), (2, .int x2)] [] (f_X11_moved x1 x2 σ) := by
  unfold f_X11_moved
  refine rx_iload_n C 1 dX11_moved_0 rfl rfl ?_
  refine rx_iconst C dX11_moved_1 ic_0 ?_
  refine rx_aload_n C 0 dX11_moved_2 rfl rfl ?_
  refine rx_getI C (k := 62) sm_0 fc_X11 (by decide) rfl lk_X11_201 dX11_moved_3 ?_
  refine rx_iconst C dX11_moved_6 ic_1 ?_
  refine rx_isub C dX11_moved_7 ?_
  refine rx_callSi C [.int x1, .int (0 : Int32), .int ((gI σ 0 62) - (1 : Int32))] [] (m_X11_is z.l C.inj x1 (0 : Int32) ((gI σ 0 62) - (1 : Int32)) σ) ms_X11_is lk_X11_309 rfl rfl (Nat.le_of_ble_eq_true rfl) ⟨Nat.le_of_ble_eq_true rfl, Nat.le_of_ble_eq_true rfl⟩ dX11_moved_8 (fun q3 => ?_)
  refine rx_if_eq C (tgt := 36) dX11_moved_11 (by decide) (fun _ => ?_) (fun _ => ?_)
  · exact RX.loc (w_X11_moved_36 C q3.2) [] rfl
  · refine rx_iload_n C 2 dX11_moved_14 rfl rfl ?_
    refine rx_iconst C dX11_moved_15 ic_0 ?_
    refine rx_iconst C dX11_moved_16 ic_4 ?_
    refine rx_callSi C [.int x2, .int (0 : Int32), .int (4 : Int32)] [] (m_X11_is z.l C.inj x2 (0 : Int32) (4 : Int32) q3.2) ms_X11_is lk_X11_309 rfl rfl (Nat.le_of_ble_eq_true rfl) ⟨Nat.le_of_ble_eq_true rfl, Nat.le_of_ble_eq_true rfl⟩ dX11_moved_17 (fun q4 => ?_)
    refine rx_if_eq C (tgt := 36) dX11_moved_20 (by decide) (fun _ => ?_) (fun _ => ?_)
    · exact RX.loc (w_X11_moved_36 C q4.2) [] rfl
    · refine rx_aload_n C 0 dX11_moved_23 rfl rfl ?_
      refine rx_getC C (k := 63) sm_0 fc_X11 (by decide) 41 rfl lk_X11_204 dX11_moved_24 ?_
      refine rx_iconst C dX11_moved_27 ic_5 ?_
      refine rx_iload_n C 1 dX11_moved_28 rfl rfl ?_
      refine rx_imul C dX11_moved_29 ?_
      refine rx_iload_n C 2 dX11_moved_30 rfl rfl ?_
      refine rx_iadd C dX11_moved_31 ?_
      refine rx_iald C (n := 300) sm_41 dX11_moved_32 (fun _ => ?_)
      refine rx_goto C (tgt := 37) dX11_moved_33 (by decide) ?_
      exact RX.loc (w_X11_moved_37 C (gI q4.2 41 (ix (((5 : Int32) * x1) + x2))) q4.2) [] rfl
theorem m_X11_moved (l : Launch) {α : Nat → Nat} {D : va_G} {cA : Nat → ClassId} (hin : inj shM.length α) (x1 : Int32) (x2 : Int32) (σ : St) : CT shM l yX11_moved cX11_moved 3 (some .int) 1 22 emI α D cA [.ref (α 0), .int x1, .int x2] σ (f_X11_moved x1 x2 σ) := ct_of rfl (Nat.le_of_ble_eq_true rfl) hin (fun z _ C => w_X11_moved_e C x1 x2 σ)
set_option maxRecDepth 100000 in
set_option maxHeartbeats 4000000 in
theorem w_X11_likelyOf_48 {α : Nat → Nat} {D : va_G} {cA : Nat → ClassId} {z : Cz} (C : CX shM α D cA z RX11 cX11_likelyOf 8 (some .long) 0 0) (k_24 : Int32 → Int32 → Int64 → Int32 → Int32 → St → Option (Int64 × St)) (hk_24 : ∀ (x2 : Int32) (x3 : Int32) (y4 : Int64) (x6 : Int32) (x7 : Int32) (σ : St), RX emL shM α D cA z 8 σ 24 [(2, .int x2), (3, .int x3), (4, .long y4), (6, .int x6), (7, .int x7)] [] (k_24 x2 x3 y4 x6 x7 σ)) (x2 : Int32) (x3 : Int32) (x6 : Int32) (x7 : Int32) (s1 : Int32) (t0 : Int64) (σ : St) : RX emL shM α D cA z 8 σ 48 [(2, .int x2), (3, .int x3), (6, .int x6), (7, .int x7)] [.int s1, .long t0] (f_X11_likelyOf_48 k_24 x2 x3 x6 x7 s1 t0 σ) := by
  unfold f_X11_likelyOf_48
  refine rx_i2l C dX11_likelyOf_48 ?_
  refine rx_lmul C dX11_likelyOf_49 ?_
  refine rx_ldc2_w C lk_X11_564 dX11_likelyOf_50 ?_
  refine rx_ldivC C dX11_likelyOf_53 (by decide) ?_
  refine rx_ltl (fun w4 => ?_)
  refine rx_lstore C [(4, .long w4), (2, .int x2), (3, .int x3), (6, .int x6), (7, .int x7)] dX11_likelyOf_54 (by decide) rfl ?_
  refine rx_iinc C (k0 := 4) (v := x7 + (1 : Int32)) [(7, .int (x7 + (1 : Int32))), (4, .long w4), (2, .int x2), (3, .int x3), (6, .int x6)] dX11_likelyOf_56 rfl (congrArg _ ic_1) (by decide) rfl ?_
  refine rx_goto C (tgt := 24) dX11_likelyOf_59 (by decide) ?_
  exact RX.loc (hk_24 x2 x3 w4 x6 (x7 + (1 : Int32)) σ) [2, 3, 1, 4, 0] rfl
set_option maxRecDepth 100000 in
set_option maxHeartbeats 4000000 in
theorem w_X11_likelyOf_24 {α : Nat → Nat} {D : va_G} {cA : Nat → ClassId} {z : Cz} (C : CX shM α D cA z RX11 cX11_likelyOf 8 (some .long) 0 0) : ∀ (n : Nat) (x2 : Int32) (x3 : Int32) (y4 : Int64) (x6 : Int32) (x7 : Int32) (σ : St), RX emL shM α D cA z 8 σ 24 [(2, .int x2), (3, .int x3), (4, .long y4), (6, .int x6), (7, .int x7)] [] (f_X11_likelyOf_24 n x2 x3 y4 x6 x7 σ) := by
  intro n
  induction n with
  | zero => intros; exact rx_none
  | succ n hk_24 =>
    intro x2 x3 y4 x6 x7 σ
    rw [f_X11_likelyOf_24.eq_2]
    refine rx_iload C 4 dX11_likelyOf_24 rfl ?_
    refine rx_iload_n C 0 dX11_likelyOf_26 rfl rfl ?_
    refine rx_icmp_ge C (tgt := 62) dX11_likelyOf_27 (by decide) (fun _ => ?_) (fun _ => ?_)
    · refine rx_lload C 2 dX11_likelyOf_62 rfl ?_
      exact rx_lret C dX11_likelyOf_64
    · refine rx_lload C 2 dX11_likelyOf_30 rfl ?_
      refine rx_iload C 4 dX11_likelyOf_32 rfl ?_
      refine rx_iload_n C 1 dX11_likelyOf_34 rfl rfl ?_
      refine rx_icmp_ge C (tgt := 43) dX11_likelyOf_35 (by decide) (fun _ => ?_) (fun _ => ?_)
      · refine rx_bipush C dX11_likelyOf_43 bp_100 ?_
        refine rx_iload C 3 dX11_likelyOf_45 rfl ?_
        refine rx_isub C dX11_likelyOf_47 ?_
        exact RX.loc (w_X11_likelyOf_48 C (f_X11_likelyOf_24 n) hk_24 x2 x3 x6 x7 ((100 : Int32) - x6) y4 σ) [0, 1, 3, 4] rfl
      · refine rx_iload C 3 dX11_likelyOf_38 rfl ?_
        refine rx_goto C (tgt := 48) dX11_likelyOf_40 (by decide) ?_
        exact RX.loc (w_X11_likelyOf_48 C (f_X11_likelyOf_24 n) hk_24 x2 x3 x6 x7 x6 y4 σ) [0, 1, 3, 4] rfl
set_option maxRecDepth 100000 in
set_option maxHeartbeats 4000000 in
theorem w_X11_likelyOf_e {α : Nat → Nat} {D : va_G} {cA : Nat → ClassId} {z : Cz} (C : CX shM α D cA z RX11 cX11_likelyOf 8 (some .long) 0 0) (x1 : Int32) (x2 : Int32) (x3 : Int32) (σ : St) : RX emL shM α D cA z 8 σ 0 [(0, .ref (α 0)), (1, .int x1), (2, .int x2), (3, .int x3)] [] (f_X11_likelyOf x1 x2 x3 σ) := by
  unfold f_X11_likelyOf
  refine rx_ldc2_w C lk_X11_562 dX11_likelyOf_0 ?_
  refine rx_lstore C [(4, .long (1000000000 : Int64)), (0, .ref (α 0)), (1, .int x1), (2, .int x2), (3, .int x3)] dX11_likelyOf_3 (by decide) rfl ?_
  refine rx_aload_n C 1 dX11_likelyOf_5 rfl rfl ?_
  refine rx_getC C (k := 18) sm_0 fc_X11 (by decide) 7 rfl lk_X11_67 dX11_likelyOf_6 ?_
  refine rx_bipush C dX11_likelyOf_9 bp_8 ?_
  refine rx_aload_n C 1 dX11_likelyOf_11 rfl rfl ?_
  refine rx_getI C (k := 12) sm_0 fc_X11 (by decide) rfl lk_X11_48 dX11_likelyOf_12 ?_
  refine rx_imul C dX11_likelyOf_15 ?_
  refine rx_iload_n C 2 dX11_likelyOf_16 rfl rfl ?_
  refine rx_iadd C dX11_likelyOf_17 ?_
  refine rx_iald C (n := 16) sm_7 dX11_likelyOf_18 (fun _ => ?_)
  refine rx_lti (fun w3 => ?_)
  refine rx_istore C [(6, .int w3), (4, .long (1000000000 : Int64)), (0, .ref (α 0)), (1, .int x1), (2, .int x2), (3, .int x3)] dX11_likelyOf_19 (by decide) rfl ?_
  refine rx_iconst C dX11_likelyOf_21 ic_0 ?_
  refine rx_istore C [(7, .int (0 : Int32)), (6, .int w3), (4, .long (1000000000 : Int64)), (0, .ref (α 0)), (1, .int x1), (2, .int x2), (3, .int x3)] dX11_likelyOf_22 (by decide) rfl ?_
  exact RX.loc (w_X11_likelyOf_24 C FU x2 x3 (1000000000 : Int64) w3 (0 : Int32) σ) [5, 6, 2, 1, 0] rfl
theorem m_X11_likelyOf (l : Launch) {α : Nat → Nat} {D : va_G} {cA : Nat → ClassId} (hin : inj shM.length α) (x1 : Int32) (x2 : Int32) (x3 : Int32) (σ : St) : CT shM l yX11_likelyOf cX11_likelyOf 8 (some .long) 0 0 emL α D cA [.ref (α 0), .int x1, .int x2, .int x3] σ (f_X11_likelyOf x1 x2 x3 σ) := ct_of rfl (Nat.le_of_ble_eq_true rfl) hin (fun z _ C => w_X11_likelyOf_e C x1 x2 x3 σ)
set_option maxRecDepth 100000 in
set_option maxHeartbeats 4000000 in
theorem w_X11_share_27 {α : Nat → Nat} {D : va_G} {cA : Nat → ClassId} {z : Cz} (C : CX shM α D cA z RX11 cX11_share 7 (some .int) 2 43) (σ : St) : RX emI shM α D cA z 7 σ 27 [] [] (f_X11_share_27 σ) := by
  unfold f_X11_share_27
  refine rx_iconst C dX11_share_27 ic_m1 ?_
  exact rx_iret C dX11_share_28
set_option maxRecDepth 100000 in
set_option maxHeartbeats 4000000 in
theorem w_X11_share_94 {α : Nat → Nat} {D : va_G} {cA : Nat → ClassId} {z : Cz} (C : CX shM α D cA z RX11 cX11_share 7 (some .int) 2 43) (s0 : Int32) (σ : St) : RX emI shM α D cA z 7 σ 94 [] [.int s0] (f_X11_share_94 s0 σ) := by
  unfold f_X11_share_94
  exact rx_iret C dX11_share_94
set_option maxRecDepth 100000 in
set_option maxHeartbeats 4000000 in
theorem w_X11_share_35 {α : Nat → Nat} {D : va_G} {cA : Nat → ClassId} {z : Cz} (C : CX shM α D cA z RX11 cX11_share 7 (some .int) 2 43) : ∀ (n : Nat) (x1 : Int32) (x2 : Int32) (x3 : Int32) (y4 : Int64) (x6 : Int32) (σ : St), RX emI shM α D cA z 7 σ 35 [(0, .ref (α 0)), (1, .int x1), (2, .int x2), (3, .int x3), (4, .long y4), (6, .int x6)] [] (f_X11_share_35 n x1 x2 x3 y4 x6 σ) := by
  intro n
  induction n with
  | zero => intros; exact rx_none
  | succ n hk_35 =>
    intro x1 x2 x3 y4 x6 σ
    rw [f_X11_share_35.eq_2]
    refine rx_iload C 5 dX11_share_35 rfl ?_
    refine rx_aload_n C 0 dX11_share_37 rfl rfl ?_
    refine rx_getC C (k := 14) sm_0 fc_X11 (by decide) 3 rfl lk_X11_54 dX11_share_38 ?_
    refine rx_aload_n C 0 dX11_share_41 rfl rfl ?_
    refine rx_getI C (k := 12) sm_0 fc_X11 (by decide) rfl lk_X11_48 dX11_share_42 ?_
    refine rx_iald C (n := 2) sm_3 dX11_share_45 (fun _ => ?_)
    refine rx_icmp_ge C (tgt := 68) dX11_share_46 (by decide) (fun _ => ?_) (fun _ => ?_)
    · refine rx_lload C 4 dX11_share_68 rfl ?_
      refine rx_lconst C dX11_share_70 lc_0 ?_
      refine rx_lcmp C dX11_share_71 ?_
      refine rx_if_ne C (tgt := 79) dX11_share_72 (by decide) (fun _ => ?_) (fun _ => ?_)
      · refine rx_iconst C dX11_share_75 ic_0 ?_
        refine rx_goto C (tgt := 94) dX11_share_76 (by decide) ?_
        exact RX.loc (w_X11_share_94 C (0 : Int32) σ) [] rfl
      · refine rx_ldc2_w C lk_X11_569 dX11_share_79 ?_
        refine rx_aload_n C 0 dX11_share_82 rfl rfl ?_
        refine rx_iload_n C 1 dX11_share_83 rfl rfl ?_
        refine rx_iload_n C 2 dX11_share_84 rfl rfl ?_
        refine rx_iload_n C 3 dX11_share_85 rfl rfl ?_
        refine rx_callVl C [.int x1, .int x2, .int x3] [.long (1000 : Int64)] (m_X11_likelyOf z.l C.inj x1 x2 x3 σ) mv_X11_likelyOf lk_X11_566 sm_0 rfl rfl rfl (Nat.le_of_ble_eq_true rfl) ⟨Nat.le_of_ble_eq_true rfl, Nat.le_of_ble_eq_true rfl⟩ dX11_share_86 (fun q10 => ?_)
        refine rx_lmul C dX11_share_89 ?_
        refine rx_lload C 4 dX11_share_90 rfl ?_
        refine rx_ldiv C dX11_share_92 (fun _ => ?_)
        refine rx_l2i C dX11_share_93 ?_
        exact RX.loc (w_X11_share_94 C ((((1000 : Int64) * q10.1) / y4).toInt32) q10.2) [] rfl
    · refine rx_lload C 4 dX11_share_49 rfl ?_
      refine rx_aload_n C 0 dX11_share_51 rfl rfl ?_
      refine rx_iload C 5 dX11_share_52 rfl ?_
      refine rx_iload_n C 2 dX11_share_54 rfl rfl ?_
      refine rx_iload_n C 3 dX11_share_55 rfl rfl ?_
      refine rx_callVl C [.int x6, .int x2, .int x3] [.long y4] (m_X11_likelyOf z.l C.inj x6 x2 x3 σ) mv_X11_likelyOf lk_X11_566 sm_0 rfl rfl rfl (Nat.le_of_ble_eq_true rfl) ⟨Nat.le_of_ble_eq_true rfl, Nat.le_of_ble_eq_true rfl⟩ dX11_share_56 (fun q11 => ?_)
      refine rx_ladd C dX11_share_59 ?_
      refine rx_ltl (fun w12 => ?_)
      refine rx_lstore C [(4, .long w12), (0, .ref (α 0)), (1, .int x1), (2, .int x2), (3, .int x3), (6, .int x6)] dX11_share_60 (by decide) rfl ?_
      refine rx_iinc C (k0 := 5) (v := x6 + (1 : Int32)) [(6, .int (x6 + (1 : Int32))), (4, .long w12), (0, .ref (α 0)), (1, .int x1), (2, .int x2), (3, .int x3)] dX11_share_62 rfl (congrArg _ ic_1) (by decide) rfl ?_
      refine rx_goto C (tgt := 35) dX11_share_65 (by decide) ?_
      exact RX.loc (hk_35 x1 x2 x3 w12 (x6 + (1 : Int32)) q11.2) [2, 3, 4, 5, 1, 0] rfl
set_option maxRecDepth 100000 in
set_option maxHeartbeats 4000000 in
theorem w_X11_share_e {α : Nat → Nat} {D : va_G} {cA : Nat → ClassId} {z : Cz} (C : CX shM α D cA z RX11 cX11_share 7 (some .int) 2 43) (x1 : Int32) (x2 : Int32) (x3 : Int32) (σ : St) : RX emI shM α D cA z 7 σ 0 [(0, .ref (α 0)), (1, .int x1), (2, .int x2), (3, .int x3)] [] (f_X11_share x1 x2 x3 σ) := by
  unfold f_X11_share
  refine rx_aload_n C 0 dX11_share_0 rfl rfl ?_
  refine rx_iload_n C 1 dX11_share_1 rfl rfl ?_
  refine rx_callVi C [.int x1] [] (m_X11_isPerson z.l C.inj x1 σ) mv_X11_isPerson lk_X11_483 sm_0 rfl rfl rfl (Nat.le_of_ble_eq_true rfl) ⟨Nat.le_of_ble_eq_true rfl, Nat.le_of_ble_eq_true rfl⟩ dX11_share_2 (fun q7 => ?_)
  refine rx_if_eq C (tgt := 27) dX11_share_5 (by decide) (fun _ => ?_) (fun _ => ?_)
  · exact RX.loc (w_X11_share_27 C q7.2) [] rfl
  · refine rx_iload_n C 2 dX11_share_8 rfl rfl ?_
    refine rx_iconst C dX11_share_9 ic_0 ?_
    refine rx_bipush C dX11_share_10 bp_40 ?_
    refine rx_callSi C [.int x2, .int (0 : Int32), .int (40 : Int32)] [] (m_X11_is z.l C.inj x2 (0 : Int32) (40 : Int32) q7.2) ms_X11_is lk_X11_309 rfl rfl (Nat.le_of_ble_eq_true rfl) ⟨Nat.le_of_ble_eq_true rfl, Nat.le_of_ble_eq_true rfl⟩ dX11_share_12 (fun q8 => ?_)
    refine rx_if_eq C (tgt := 27) dX11_share_15 (by decide) (fun _ => ?_) (fun _ => ?_)
    · exact RX.loc (w_X11_share_27 C q8.2) [] rfl
    · refine rx_iload_n C 3 dX11_share_18 rfl rfl ?_
      refine rx_iconst C dX11_share_19 ic_0 ?_
      refine rx_iload_n C 2 dX11_share_20 rfl rfl ?_
      refine rx_callSi C [.int x3, .int (0 : Int32), .int x2] [] (m_X11_is z.l C.inj x3 (0 : Int32) x2 q8.2) ms_X11_is lk_X11_309 rfl rfl (Nat.le_of_ble_eq_true rfl) ⟨Nat.le_of_ble_eq_true rfl, Nat.le_of_ble_eq_true rfl⟩ dX11_share_21 (fun q9 => ?_)
      refine rx_if_ne C (tgt := 29) dX11_share_24 (by decide) (fun _ => ?_) (fun _ => ?_)
      · exact RX.loc (w_X11_share_27 C q9.2) [] rfl
      · refine rx_lconst C dX11_share_29 lc_0 ?_
        refine rx_lstore C [(4, .long (0 : Int64)), (0, .ref (α 0)), (1, .int x1), (2, .int x2), (3, .int x3)] dX11_share_30 (by decide) rfl ?_
        refine rx_iconst C dX11_share_32 ic_0 ?_
        refine rx_istore C [(6, .int (0 : Int32)), (4, .long (0 : Int64)), (0, .ref (α 0)), (1, .int x1), (2, .int x2), (3, .int x3)] dX11_share_33 (by decide) rfl ?_
        exact RX.loc (w_X11_share_35 C FU x1 x2 x3 (0 : Int64) (0 : Int32) q9.2) [2, 3, 4, 5, 1, 0] rfl
theorem m_X11_share (l : Launch) {α : Nat → Nat} {D : va_G} {cA : Nat → ClassId} (hin : inj shM.length α) (x1 : Int32) (x2 : Int32) (x3 : Int32) (σ : St) : CT shM l yX11_share cX11_share 7 (some .int) 2 43 emI α D cA [.ref (α 0), .int x1, .int x2, .int x3] σ (f_X11_share x1 x2 x3 σ) := ct_of rfl (Nat.le_of_ble_eq_true rfl) hin (fun z _ C => w_X11_share_e C x1 x2 x3 σ)
set_option maxRecDepth 100000 in
set_option maxHeartbeats 4000000 in
theorem w_X11_bullets_20 {α : Nat → Nat} {D : va_G} {cA : Nat → ClassId} {z : Cz} (C : CX shM α D cA z RX11 cX11_bullets 9 (some .int) 1 22) (σ : St) : RX emI shM α D cA z 9 σ 20 [] [] (f_X11_bullets_20 σ) := by
  unfold f_X11_bullets_20
  refine rx_iconst C dX11_bullets_20 ic_m1 ?_
  exact rx_iret C dX11_bullets_21
set_option maxRecDepth 100000 in
set_option maxHeartbeats 4000000 in
theorem w_X11_bullets_147 {α : Nat → Nat} {D : va_G} {cA : Nat → ClassId} {z : Cz} (C : CX shM α D cA z RX11 cX11_bullets 9 (some .int) 1 22) (s0 : Int32) (σ : St) : RX emI shM α D cA z 9 σ 147 [] [.int s0] (f_X11_bullets_147 s0 σ) := by
  unfold f_X11_bullets_147
  exact rx_iret C dX11_bullets_147
set_option maxRecDepth 100000 in
set_option maxHeartbeats 4000000 in
theorem w_X11_bullets_130 {α : Nat → Nat} {D : va_G} {cA : Nat → ClassId} {z : Cz} (C : CX shM α D cA z RX11 cX11_bullets 9 (some .int) 1 22) (k_50 : Int32 → Int32 → Int32 → Int32 → Int32 → Int32 → St → Option (Int32 × St)) (hk_50 : ∀ (x1 : Int32) (x2 : Int32) (x3 : Int32) (x4 : Int32) (x5 : Int32) (x6 : Int32) (σ : St), RX emI shM α D cA z 9 σ 50 [(0, .ref (α 0)), (1, .int x1), (2, .int x2), (3, .int x3), (4, .int x4), (5, .int x5), (6, .int x6)] [] (k_50 x1 x2 x3 x4 x5 x6 σ)) (x1 : Int32) (x2 : Int32) (x3 : Int32) (x4 : Int32) (x5 : Int32) (x6 : Int32) (σ : St) : RX emI shM α D cA z 9 σ 130 [(0, .ref (α 0)), (1, .int x1), (2, .int x2), (3, .int x3), (4, .int x4), (5, .int x5), (6, .int x6)] [] (f_X11_bullets_130 k_50 x1 x2 x3 x4 x5 x6 σ) := by
  unfold f_X11_bullets_130
  refine rx_iinc C (k0 := 6) (v := x6 + (1 : Int32)) [(6, .int (x6 + (1 : Int32))), (0, .ref (α 0)), (1, .int x1), (2, .int x2), (3, .int x3), (4, .int x4), (5, .int x5)] dX11_bullets_130 rfl (congrArg _ ic_1) (by decide) rfl ?_
  refine rx_goto C (tgt := 50) dX11_bullets_133 (by decide) ?_
  exact RX.loc (hk_50 x1 x2 x3 x4 x5 (x6 + (1 : Int32)) σ) [1, 2, 3, 4, 5, 6, 0] rfl
set_option maxRecDepth 100000 in
set_option maxHeartbeats 4000000 in
theorem w_X11_bullets_128 {α : Nat → Nat} {D : va_G} {cA : Nat → ClassId} {z : Cz} (C : CX shM α D cA z RX11 cX11_bullets 9 (some .int) 1 22) (k_50 : Int32 → Int32 → Int32 → Int32 → Int32 → Int32 → St → Option (Int32 × St)) (hk_50 : ∀ (x1 : Int32) (x2 : Int32) (x3 : Int32) (x4 : Int32) (x5 : Int32) (x6 : Int32) (σ : St), RX emI shM α D cA z 9 σ 50 [(0, .ref (α 0)), (1, .int x1), (2, .int x2), (3, .int x3), (4, .int x4), (5, .int x5), (6, .int x6)] [] (k_50 x1 x2 x3 x4 x5 x6 σ)) (x1 : Int32) (x2 : Int32) (x3 : Int32) (x4 : Int32) (x6 : Int32) (s0 : Int32) (σ : St) : RX emI shM α D cA z 9 σ 128 [(0, .ref (α 0)), (1, .int x1), (2, .int x2), (3, .int x3), (4, .int x4), (6, .int x6)] [.int s0] (f_X11_bullets_128 k_50 x1 x2 x3 x4 x6 s0 σ) := by
  unfold f_X11_bullets_128
  refine rx_istore C [(5, .int s0), (0, .ref (α 0)), (1, .int x1), (2, .int x2), (3, .int x3), (4, .int x4), (6, .int x6)] dX11_bullets_128 (by decide) rfl ?_
  exact RX.loc (w_X11_bullets_130 C k_50 hk_50 x1 x2 x3 x4 s0 x6 σ) [1, 2, 3, 4, 5, 0, 6] rfl
set_option maxRecDepth 100000 in
set_option maxHeartbeats 4000000 in
theorem w_X11_bullets_94 {α : Nat → Nat} {D : va_G} {cA : Nat → ClassId} {z : Cz} (C : CX shM α D cA z RX11 cX11_bullets 9 (some .int) 1 22) (k_50 : Int32 → Int32 → Int32 → Int32 → Int32 → Int32 → St → Option (Int32 × St)) (hk_50 : ∀ (x1 : Int32) (x2 : Int32) (x3 : Int32) (x4 : Int32) (x5 : Int32) (x6 : Int32) (σ : St), RX emI shM α D cA z 9 σ 50 [(0, .ref (α 0)), (1, .int x1), (2, .int x2), (3, .int x3), (4, .int x4), (5, .int x5), (6, .int x6)] [] (k_50 x1 x2 x3 x4 x5 x6 σ)) (k_64 : Int32 → Int32 → Int32 → Int32 → Int32 → Int32 → Int32 → Int32 → St → Option (Int32 × St)) (hk_64 : ∀ (x1 : Int32) (x2 : Int32) (x3 : Int32) (x4 : Int32) (x5 : Int32) (x6 : Int32) (x7 : Int32) (x8 : Int32) (σ : St), RX emI shM α D cA z 9 σ 64 [(0, .ref (α 0)), (1, .int x1), (2, .int x2), (3, .int x3), (4, .int x4), (5, .int x5), (6, .int x6), (7, .int x7), (8, .int x8)] [] (k_64 x1 x2 x3 x4 x5 x6 x7 x8 σ)) (x1 : Int32) (x2 : Int32) (x3 : Int32) (x4 : Int32) (x5 : Int32) (x6 : Int32) (x8 : Int32) (s1 : Int32) (s0 : Int32) (σ : St) : RX emI shM α D cA z 9 σ 94 [(0, .ref (α 0)), (1, .int x1), (2, .int x2), (3, .int x3), (4, .int x4), (5, .int x5), (6, .int x6), (8, .int x8)] [.int s1, .int s0] (f_X11_bullets_94 k_50 k_64 x1 x2 x3 x4 x5 x6 x8 s1 s0 σ) := by
  unfold f_X11_bullets_94
  refine rx_iadd C dX11_bullets_94 ?_
  refine rx_lti (fun w4 => ?_)
  refine rx_istore C [(7, .int w4), (0, .ref (α 0)), (1, .int x1), (2, .int x2), (3, .int x3), (4, .int x4), (5, .int x5), (6, .int x6), (8, .int x8)] dX11_bullets_95 (by decide) rfl ?_
  refine rx_iinc C (k0 := 8) (v := x8 + (1 : Int32)) [(8, .int (x8 + (1 : Int32))), (7, .int w4), (0, .ref (α 0)), (1, .int x1), (2, .int x2), (3, .int x3), (4, .int x4), (5, .int x5), (6, .int x6)] dX11_bullets_97 rfl (congrArg _ ic_1) (by decide) rfl ?_
  refine rx_goto C (tgt := 64) dX11_bullets_100 (by decide) ?_
  exact RX.loc (hk_64 x1 x2 x3 x4 x5 x6 w4 (x8 + (1 : Int32)) σ) [2, 3, 4, 5, 6, 7, 8, 1, 0] rfl
set_option maxRecDepth 100000 in
set_option maxHeartbeats 4000000 in
theorem w_X11_bullets_64 {α : Nat → Nat} {D : va_G} {cA : Nat → ClassId} {z : Cz} (C : CX shM α D cA z RX11 cX11_bullets 9 (some .int) 1 22) (k_50 : Int32 → Int32 → Int32 → Int32 → Int32 → Int32 → St → Option (Int32 × St)) (hk_50 : ∀ (x1 : Int32) (x2 : Int32) (x3 : Int32) (x4 : Int32) (x5 : Int32) (x6 : Int32) (σ : St), RX emI shM α D cA z 9 σ 50 [(0, .ref (α 0)), (1, .int x1), (2, .int x2), (3, .int x3), (4, .int x4), (5, .int x5), (6, .int x6)] [] (k_50 x1 x2 x3 x4 x5 x6 σ)) : ∀ (n : Nat) (x1 : Int32) (x2 : Int32) (x3 : Int32) (x4 : Int32) (x5 : Int32) (x6 : Int32) (x7 : Int32) (x8 : Int32) (σ : St), RX emI shM α D cA z 9 σ 64 [(0, .ref (α 0)), (1, .int x1), (2, .int x2), (3, .int x3), (4, .int x4), (5, .int x5), (6, .int x6), (7, .int x7), (8, .int x8)] [] (f_X11_bullets_64 k_50 n x1 x2 x3 x4 x5 x6 x7 x8 σ) := by
  intro n
  induction n with
  | zero => intros; exact rx_none
  | succ n hk_64 =>
    intro x1 x2 x3 x4 x5 x6 x7 x8 σ
    rw [f_X11_bullets_64.eq_2]
    refine rx_iload C 8 dX11_bullets_64 rfl ?_
    refine rx_iload_n C 3 dX11_bullets_66 rfl rfl ?_
    refine rx_icmp_ge C (tgt := 103) dX11_bullets_67 (by decide) (fun _ => ?_) (fun _ => ?_)
    · refine rx_iload C 7 dX11_bullets_103 rfl ?_
      refine rx_iload_n C 1 dX11_bullets_105 rfl rfl ?_
      refine rx_icmp_eq C (tgt := 112) dX11_bullets_106 (by decide) (fun _ => ?_) (fun _ => ?_)
      · refine rx_iinc C (k0 := 4) (v := x4 + (1 : Int32)) [(4, .int (x4 + (1 : Int32))), (0, .ref (α 0)), (1, .int x1), (2, .int x2), (3, .int x3), (5, .int x5), (6, .int x6), (7, .int x7), (8, .int x8)] dX11_bullets_112 rfl (congrArg _ ic_1) (by decide) rfl ?_
        refine rx_iload C 5 dX11_bullets_115 rfl ?_
        refine rx_iconst C dX11_bullets_117 ic_m1 ?_
        refine rx_icmp_ne C (tgt := 126) dX11_bullets_118 (by decide) (fun _ => ?_) (fun _ => ?_)
        · refine rx_iload C 6 dX11_bullets_121 rfl ?_
          refine rx_goto C (tgt := 128) dX11_bullets_123 (by decide) ?_
          exact RX.loc (w_X11_bullets_128 C k_50 hk_50 x1 x2 x3 (x4 + (1 : Int32)) x6 x6 σ) [1, 2, 3, 4, 0, 6] rfl
        · refine rx_iload C 5 dX11_bullets_126 rfl ?_
          exact RX.loc (w_X11_bullets_128 C k_50 hk_50 x1 x2 x3 (x4 + (1 : Int32)) x6 x5 σ) [1, 2, 3, 4, 0, 6] rfl
      · refine rx_goto C (tgt := 130) dX11_bullets_109 (by decide) ?_
        exact RX.loc (w_X11_bullets_130 C k_50 hk_50 x1 x2 x3 x4 x5 x6 σ) [0, 1, 2, 3, 4, 5, 6] rfl
    · refine rx_iload C 7 dX11_bullets_70 rfl ?_
      refine rx_iload C 6 dX11_bullets_72 rfl ?_
      refine rx_iload C 8 dX11_bullets_74 rfl ?_
      refine rx_ishr C dX11_bullets_76 ?_
      refine rx_iconst C dX11_bullets_77 ic_1 ?_
      refine rx_iand C dX11_bullets_78 ?_
      refine rx_iconst C dX11_bullets_79 ic_1 ?_
      refine rx_icmp_ne C (tgt := 93) dX11_bullets_80 (by decide) (fun _ => ?_) (fun _ => ?_)
      · refine rx_aload_n C 0 dX11_bullets_83 rfl rfl ?_
        refine rx_getC C (k := 61) sm_0 fc_X11 (by decide) 40 rfl lk_X11_198 dX11_bullets_84 ?_
        refine rx_iload C 8 dX11_bullets_87 rfl ?_
        refine rx_iald C (n := 30) sm_40 dX11_bullets_89 (fun _ => ?_)
        refine rx_goto C (tgt := 94) dX11_bullets_90 (by decide) ?_
        exact RX.loc (w_X11_bullets_94 C k_50 hk_50 (f_X11_bullets_64 k_50 n) hk_64 x1 x2 x3 x4 x5 x6 x8 (gI σ 40 (ix x8)) x7 σ) [0, 1, 2, 3, 4, 5, 6, 8] rfl
      · refine rx_iconst C dX11_bullets_93 ic_0 ?_
        exact RX.loc (w_X11_bullets_94 C k_50 hk_50 (f_X11_bullets_64 k_50 n) hk_64 x1 x2 x3 x4 x5 x6 x8 (0 : Int32) x7 σ) [0, 1, 2, 3, 4, 5, 6, 8] rfl
set_option maxRecDepth 100000 in
set_option maxHeartbeats 4000000 in
theorem w_X11_bullets_50 {α : Nat → Nat} {D : va_G} {cA : Nat → ClassId} {z : Cz} (C : CX shM α D cA z RX11 cX11_bullets 9 (some .int) 1 22) : ∀ (n : Nat) (x1 : Int32) (x2 : Int32) (x3 : Int32) (x4 : Int32) (x5 : Int32) (x6 : Int32) (σ : St), RX emI shM α D cA z 9 σ 50 [(0, .ref (α 0)), (1, .int x1), (2, .int x2), (3, .int x3), (4, .int x4), (5, .int x5), (6, .int x6)] [] (f_X11_bullets_50 n x1 x2 x3 x4 x5 x6 σ) := by
  intro n
  induction n with
  | zero => intros; exact rx_none
  | succ n hk_50 =>
    intro x1 x2 x3 x4 x5 x6 σ
    rw [f_X11_bullets_50.eq_2]
    refine rx_iload C 6 dX11_bullets_50 rfl ?_
    refine rx_iconst C dX11_bullets_52 ic_1 ?_
    refine rx_iload_n C 3 dX11_bullets_53 rfl rfl ?_
    refine rx_ishl C dX11_bullets_54 ?_
    refine rx_icmp_ge C (tgt := 136) dX11_bullets_55 (by decide) (fun _ => ?_) (fun _ => ?_)
    · refine rx_iload_n C 2 dX11_bullets_136 rfl rfl ?_
      refine rx_if_ne C (tgt := 145) dX11_bullets_137 (by decide) (fun _ => ?_) (fun _ => ?_)
      · refine rx_iload C 4 dX11_bullets_140 rfl ?_
        refine rx_goto C (tgt := 147) dX11_bullets_142 (by decide) ?_
        exact RX.loc (w_X11_bullets_147 C x4 σ) [] rfl
      · refine rx_iload C 5 dX11_bullets_145 rfl ?_
        exact RX.loc (w_X11_bullets_147 C x5 σ) [] rfl
    · refine rx_iconst C dX11_bullets_58 ic_0 ?_
      refine rx_istore C [(7, .int (0 : Int32)), (0, .ref (α 0)), (1, .int x1), (2, .int x2), (3, .int x3), (4, .int x4), (5, .int x5), (6, .int x6)] dX11_bullets_59 (by decide) rfl ?_
      refine rx_iconst C dX11_bullets_61 ic_0 ?_
      refine rx_istore C [(8, .int (0 : Int32)), (7, .int (0 : Int32)), (0, .ref (α 0)), (1, .int x1), (2, .int x2), (3, .int x3), (4, .int x4), (5, .int x5), (6, .int x6)] dX11_bullets_62 (by decide) rfl ?_
      exact RX.loc (w_X11_bullets_64 C (f_X11_bullets_50 n) hk_50 FU x1 x2 x3 x4 x5 x6 (0 : Int32) (0 : Int32) σ) [2, 3, 4, 5, 6, 7, 8, 1, 0] rfl
set_option maxRecDepth 100000 in
set_option maxHeartbeats 4000000 in
theorem w_X11_bullets_40 {α : Nat → Nat} {D : va_G} {cA : Nat → ClassId} {z : Cz} (C : CX shM α D cA z RX11 cX11_bullets 9 (some .int) 1 22) (x1 : Int32) (x2 : Int32) (s0 : Int32) (σ : St) : RX emI shM α D cA z 9 σ 40 [(0, .ref (α 0)), (1, .int x1), (2, .int x2)] [.int s0] (f_X11_bullets_40 x1 x2 s0 σ) := by
  unfold f_X11_bullets_40
  refine rx_istore_n C [(3, .int s0), (0, .ref (α 0)), (1, .int x1), (2, .int x2)] dX11_bullets_40 rfl (by decide) rfl ?_
  refine rx_iconst C dX11_bullets_41 ic_0 ?_
  refine rx_istore C [(4, .int (0 : Int32)), (3, .int s0), (0, .ref (α 0)), (1, .int x1), (2, .int x2)] dX11_bullets_42 (by decide) rfl ?_
  refine rx_iconst C dX11_bullets_44 ic_m1 ?_
  refine rx_istore C [(5, .int (-1 : Int32)), (4, .int (0 : Int32)), (3, .int s0), (0, .ref (α 0)), (1, .int x1), (2, .int x2)] dX11_bullets_45 (by decide) rfl ?_
  refine rx_iconst C dX11_bullets_47 ic_0 ?_
  refine rx_istore C [(6, .int (0 : Int32)), (5, .int (-1 : Int32)), (4, .int (0 : Int32)), (3, .int s0), (0, .ref (α 0)), (1, .int x1), (2, .int x2)] dX11_bullets_48 (by decide) rfl ?_
  exact RX.loc (w_X11_bullets_50 C FU x1 x2 s0 (0 : Int32) (-1 : Int32) (0 : Int32) σ) [4, 5, 6, 3, 2, 1, 0] rfl
set_option maxRecDepth 100000 in
set_option maxHeartbeats 4000000 in
theorem w_X11_bullets_22 {α : Nat → Nat} {D : va_G} {cA : Nat → ClassId} {z : Cz} (C : CX shM α D cA z RX11 cX11_bullets 9 (some .int) 1 22) (x1 : Int32) (x2 : Int32) (σ : St) : RX emI shM α D cA z 9 σ 22 [(0, .ref (α 0)), (1, .int x1), (2, .int x2)] [] (f_X11_bullets_22 x1 x2 σ) := by
  unfold f_X11_bullets_22
  refine rx_aload_n C 0 dX11_bullets_22 rfl rfl ?_
  refine rx_getI C (k := 60) sm_0 fc_X11 (by decide) rfl lk_X11_195 dX11_bullets_23 ?_
  refine rx_bipush C dX11_bullets_26 bp_16 ?_
  refine rx_icmp_ge C (tgt := 38) dX11_bullets_28 (by decide) (fun _ => ?_) (fun _ => ?_)
  · refine rx_bipush C dX11_bullets_38 bp_16 ?_
    exact RX.loc (w_X11_bullets_40 C x1 x2 (16 : Int32) σ) [0, 1, 2] rfl
  · refine rx_aload_n C 0 dX11_bullets_31 rfl rfl ?_
    refine rx_getI C (k := 60) sm_0 fc_X11 (by decide) rfl lk_X11_195 dX11_bullets_32 ?_
    refine rx_goto C (tgt := 40) dX11_bullets_35 (by decide) ?_
    exact RX.loc (w_X11_bullets_40 C x1 x2 (gI σ 0 60) σ) [0, 1, 2] rfl
set_option maxRecDepth 100000 in
set_option maxHeartbeats 4000000 in
theorem w_X11_bullets_e {α : Nat → Nat} {D : va_G} {cA : Nat → ClassId} {z : Cz} (C : CX shM α D cA z RX11 cX11_bullets 9 (some .int) 1 22) (x1 : Int32) (x2 : Int32) (σ : St) : RX emI shM α D cA z 9 σ 0 [(0, .ref (α 0)), (1, .int x1), (2, .int x2)] [] (f_X11_bullets x1 x2 σ) := by
  unfold f_X11_bullets
  refine rx_iload_n C 1 dX11_bullets_0 rfl rfl ?_
  refine rx_iconst C dX11_bullets_1 ic_0 ?_
  refine rx_ldc_w C lk_X11_571 dX11_bullets_2 ?_
  refine rx_callSi C [.int x1, .int (0 : Int32), .int (99999 : Int32)] [] (m_X11_is z.l C.inj x1 (0 : Int32) (99999 : Int32) σ) ms_X11_is lk_X11_309 rfl rfl (Nat.le_of_ble_eq_true rfl) ⟨Nat.le_of_ble_eq_true rfl, Nat.le_of_ble_eq_true rfl⟩ dX11_bullets_5 (fun q3 => ?_)
  refine rx_if_eq C (tgt := 20) dX11_bullets_8 (by decide) (fun _ => ?_) (fun _ => ?_)
  · exact RX.loc (w_X11_bullets_20 C q3.2) [] rfl
  · refine rx_iload_n C 2 dX11_bullets_11 rfl rfl ?_
    refine rx_if_eq C (tgt := 22) dX11_bullets_12 (by decide) (fun _ => ?_) (fun _ => ?_)
    · exact RX.loc (w_X11_bullets_22 C x1 x2 q3.2) [0, 1, 2] rfl
    · refine rx_iload_n C 2 dX11_bullets_15 rfl rfl ?_
      refine rx_iconst C dX11_bullets_16 ic_1 ?_
      refine rx_icmp_eq C (tgt := 22) dX11_bullets_17 (by decide) (fun _ => ?_) (fun _ => ?_)
      · exact RX.loc (w_X11_bullets_22 C x1 x2 q3.2) [0, 1, 2] rfl
      · exact RX.loc (w_X11_bullets_20 C q3.2) [] rfl
theorem m_X11_bullets (l : Launch) {α : Nat → Nat} {D : va_G} {cA : Nat → ClassId} (hin : inj shM.length α) (x1 : Int32) (x2 : Int32) (σ : St) : CT shM l yX11_bullets cX11_bullets 9 (some .int) 1 22 emI α D cA [.ref (α 0), .int x1, .int x2] σ (f_X11_bullets x1 x2 σ) := ct_of rfl (Nat.le_of_ble_eq_true rfl) hin (fun z _ C => w_X11_bullets_e C x1 x2 σ)
set_option maxRecDepth 100000 in
set_option maxHeartbeats 4000000 in
theorem w_X11_letterOf_e {α : Nat → Nat} {D : va_G} {cA : Nat → ClassId} {z : Cz} (C : CX shM α D cA z RX11 cX11_letterOf 3 (some .int) 1 24) (x1 : Int32) (x2 : Int32) (σ : St) : RX emI shM α D cA z 3 σ 0 [(0, .ref (α 0)), (1, .int x1), (2, .int x2)] [] (f_X11_letterOf x1 x2 σ) := by
  unfold f_X11_letterOf
  refine rx_aload_n C 0 dX11_letterOf_0 rfl rfl ?_
  refine rx_getC C (k := 21) sm_0 fc_X11 (by decide) 10 rfl lk_X11_76 dX11_letterOf_1 ?_
  refine rx_bipush C dX11_letterOf_4 bp_12 ?_
  refine rx_aload_n C 0 dX11_letterOf_6 rfl rfl ?_
  refine rx_getI C (k := 12) sm_0 fc_X11 (by decide) rfl lk_X11_48 dX11_letterOf_7 ?_
  refine rx_imul C dX11_letterOf_10 ?_
  refine rx_iload_n C 1 dX11_letterOf_11 rfl rfl ?_
  refine rx_iadd C dX11_letterOf_12 ?_
  refine rx_lald C (n := 24) sm_10 dX11_letterOf_13 (fun _ => ?_)
  refine rx_bipush C dX11_letterOf_14 bp_8 ?_
  refine rx_aload_n C 0 dX11_letterOf_16 rfl rfl ?_
  refine rx_iload_n C 1 dX11_letterOf_17 rfl rfl ?_
  refine rx_callVi C [.int x1] [.int (8 : Int32), .long (gL σ 10 (ix (((12 : Int32) * (gI σ 0 12)) + x1)))] (m_X11_lengthOf z.l C.inj x1 σ) mv_X11_lengthOf lk_X11_474 sm_0 rfl rfl rfl (Nat.le_of_ble_eq_true rfl) ⟨Nat.le_of_ble_eq_true rfl, Nat.le_of_ble_eq_true rfl⟩ dX11_letterOf_18 (fun q2 => ?_)
  refine rx_iconst C dX11_letterOf_21 ic_1 ?_
  refine rx_isub C dX11_letterOf_22 ?_
  refine rx_iload_n C 2 dX11_letterOf_23 rfl rfl ?_
  refine rx_isub C dX11_letterOf_24 ?_
  refine rx_imul C dX11_letterOf_25 ?_
  refine rx_lushr C dX11_letterOf_26 ?_
  refine rx_ldc2_w C lk_X11_351 dX11_letterOf_27 ?_
  refine rx_land C dX11_letterOf_30 ?_
  refine rx_l2i C dX11_letterOf_31 ?_
  refine rx_bipush C dX11_letterOf_32 bp_97 ?_
  refine rx_isub C dX11_letterOf_34 ?_
  exact rx_iret C dX11_letterOf_35
theorem m_X11_letterOf (l : Launch) {α : Nat → Nat} {D : va_G} {cA : Nat → ClassId} (hin : inj shM.length α) (x1 : Int32) (x2 : Int32) (σ : St) : CT shM l yX11_letterOf cX11_letterOf 3 (some .int) 1 24 emI α D cA [.ref (α 0), .int x1, .int x2] σ (f_X11_letterOf x1 x2 σ) := ct_of rfl (Nat.le_of_ble_eq_true rfl) hin (fun z _ C => w_X11_letterOf_e C x1 x2 σ)
set_option maxRecDepth 100000 in
set_option maxHeartbeats 4000000 in
theorem w_X11_tries_116 {α : Nat → Nat} {D : va_G} {cA : Nat → ClassId} {z : Cz} (C : CX shM α D cA z RX11 cX11_tries 9 none 2 46) (σ : St) : RX emV shM α D cA z 9 σ 116 [] [] (f_X11_tries_116 σ) := by
  unfold f_X11_tries_116
  exact rx_vret C dX11_tries_116
set_option maxRecDepth 100000 in
set_option maxHeartbeats 4000000 in
theorem w_X11_tries_117 {α : Nat → Nat} {D : va_G} {cA : Nat → ClassId} {z : Cz} (C : CX shM α D cA z RX11 cX11_tries 9 none 2 46) (x6 : Int32) (x7 : Int32) (σ : St) : RX emV shM α D cA z 9 σ 117 [(0, .ref (α 0)), (6, .int x6), (7, .int x7)] [] (f_X11_tries_117 x6 x7 σ) := by
  unfold f_X11_tries_117
  refine rx_aload_n C 0 dX11_tries_117 rfl rfl ?_
  refine rx_iload C 1 dX11_tries_118 rfl ?_
  refine rx_putI C (k := 68) sm_0 fc_X11 (by decide) rfl lk_X11_219 rfl ⟨rfl, rfl⟩ dX11_tries_120 ?_
  refine rx_lts (fun σ12 => ?_)
  refine rx_aload_n C 0 dX11_tries_123 rfl rfl ?_
  refine rx_iload C 2 dX11_tries_124 rfl ?_
  refine rx_putI C (k := 69) sm_0 fc_X11 (by decide) rfl lk_X11_222 rfl ⟨rfl, rfl⟩ dX11_tries_126 ?_
  refine rx_lts (fun σ13 => ?_)
  exact rx_vret C dX11_tries_129
set_option maxRecDepth 100000 in
set_option maxHeartbeats 4000000 in
theorem w_X11_tries_40 {α : Nat → Nat} {D : va_G} {cA : Nat → ClassId} {z : Cz} (C : CX shM α D cA z RX11 cX11_tries 9 none 2 46) : ∀ (n : Nat) (x1 : Int32) (x2 : Int32) (x3 : Int32) (x6 : Int32) (x7 : Int32) (x8 : Int32) (σ : St), RX emV shM α D cA z 9 σ 40 [(0, .ref (α 0)), (1, .int x1), (2, .int x2), (3, .int x3), (6, .int x6), (7, .int x7), (8, .int x8)] [] (f_X11_tries_40 n x1 x2 x3 x6 x7 x8 σ) := by
  intro n
  induction n with
  | zero => intros; exact rx_none
  | succ n hk_40 =>
    intro x1 x2 x3 x6 x7 x8 σ
    rw [f_X11_tries_40.eq_2]
    refine rx_iload C 6 dX11_tries_40 rfl ?_
    refine rx_iload C 4 dX11_tries_42 rfl ?_
    refine rx_icmp_ge C (tgt := 89) dX11_tries_44 (by decide) (fun _ => ?_) (fun _ => ?_)
    · refine rx_iload C 4 dX11_tries_89 rfl ?_
      refine rx_aload_n C 0 dX11_tries_91 rfl rfl ?_
      refine rx_getI C (k := 68) sm_0 fc_X11 (by decide) rfl lk_X11_219 dX11_tries_92 ?_
      refine rx_icmp_lt C (tgt := 116) dX11_tries_95 (by decide) (fun _ => ?_) (fun _ => ?_)
      · exact RX.loc (w_X11_tries_116 C σ) [] rfl
      · refine rx_iload C 4 dX11_tries_98 rfl ?_
        refine rx_aload_n C 0 dX11_tries_100 rfl rfl ?_
        refine rx_getI C (k := 68) sm_0 fc_X11 (by decide) rfl lk_X11_219 dX11_tries_101 ?_
        refine rx_icmp_ne C (tgt := 117) dX11_tries_104 (by decide) (fun _ => ?_) (fun _ => ?_)
        · refine rx_iload C 5 dX11_tries_107 rfl ?_
          refine rx_aload_n C 0 dX11_tries_109 rfl rfl ?_
          refine rx_getI C (k := 69) sm_0 fc_X11 (by decide) rfl lk_X11_222 dX11_tries_110 ?_
          refine rx_icmp_gt C (tgt := 117) dX11_tries_113 (by decide) (fun _ => ?_) (fun _ => ?_)
          · exact RX.loc (w_X11_tries_117 C x6 x7 σ) [0, 4, 5] rfl
          · exact RX.loc (w_X11_tries_116 C σ) [] rfl
        · exact RX.loc (w_X11_tries_117 C x6 x7 σ) [0, 4, 5] rfl
    · refine rx_aload_n C 0 dX11_tries_47 rfl rfl ?_
      refine rx_iload_n C 1 dX11_tries_48 rfl rfl ?_
      refine rx_iload_n C 3 dX11_tries_49 rfl rfl ?_
      refine rx_iload C 6 dX11_tries_50 rfl ?_
      refine rx_iadd C dX11_tries_52 ?_
      refine rx_callVi C [.int x1, .int (x3 + x8)] [] (m_X11_letterOf z.l C.inj x1 (x3 + x8) σ) mv_X11_letterOf lk_X11_572 sm_0 rfl rfl rfl (Nat.le_of_ble_eq_true rfl) ⟨Nat.le_of_ble_eq_true rfl, Nat.le_of_ble_eq_true rfl⟩ dX11_tries_53 (fun q14 => ?_)
      refine rx_aload_n C 0 dX11_tries_56 rfl rfl ?_
      refine rx_iload_n C 2 dX11_tries_57 rfl rfl ?_
      refine rx_iload C 6 dX11_tries_58 rfl ?_
      refine rx_callVi C [.int x2, .int x8] [.int q14.1] (m_X11_letterOf z.l C.inj x2 x8 q14.2) mv_X11_letterOf lk_X11_572 sm_0 rfl rfl rfl (Nat.le_of_ble_eq_true rfl) ⟨Nat.le_of_ble_eq_true rfl, Nat.le_of_ble_eq_true rfl⟩ dX11_tries_60 (fun q15 => ?_)
      refine rx_icmp_eq C (tgt := 67) dX11_tries_63 (by decide) (fun _ => ?_) (fun _ => ?_)
      · refine rx_iload C 5 dX11_tries_67 rfl ?_
        refine rx_aload_n C 0 dX11_tries_69 rfl rfl ?_
        refine rx_aload_n C 0 dX11_tries_70 rfl rfl ?_
        refine rx_iload_n C 2 dX11_tries_71 rfl rfl ?_
        refine rx_iload C 6 dX11_tries_72 rfl ?_
        refine rx_callVi C [.int x2, .int x8] [.ref (α 0), .int x7] (m_X11_letterOf z.l C.inj x2 x8 q15.2) mv_X11_letterOf lk_X11_572 sm_0 rfl rfl rfl (Nat.le_of_ble_eq_true rfl) ⟨Nat.le_of_ble_eq_true rfl, Nat.le_of_ble_eq_true rfl⟩ dX11_tries_74 (fun q16 => ?_)
        refine rx_callVi C [.int q16.1] [.int x7] (m_X11_weight z.l C.inj q16.1 q16.2) mv_X11_weight lk_X11_433 sm_0 rfl rfl rfl (Nat.le_of_ble_eq_true rfl) ⟨Nat.le_of_ble_eq_true rfl, Nat.le_of_ble_eq_true rfl⟩ dX11_tries_77 (fun q17 => ?_)
        refine rx_iadd C dX11_tries_80 ?_
        refine rx_lti (fun w18 => ?_)
        refine rx_istore C [(7, .int w18), (0, .ref (α 0)), (1, .int x1), (2, .int x2), (3, .int x3), (6, .int x6), (8, .int x8)] dX11_tries_81 (by decide) rfl ?_
        refine rx_iinc C (k0 := 6) (v := x8 + (1 : Int32)) [(8, .int (x8 + (1 : Int32))), (7, .int w18), (0, .ref (α 0)), (1, .int x1), (2, .int x2), (3, .int x3), (6, .int x6)] dX11_tries_83 rfl (congrArg _ ic_1) (by decide) rfl ?_
        refine rx_goto C (tgt := 40) dX11_tries_86 (by decide) ?_
        exact RX.loc (hk_40 x1 x2 x3 x6 w18 (x8 + (1 : Int32)) q17.2) [2, 3, 4, 5, 6, 1, 0] rfl
      · exact rx_vret C dX11_tries_66
set_option maxRecDepth 100000 in
set_option maxHeartbeats 4000000 in
theorem w_X11_tries_32 {α : Nat → Nat} {D : va_G} {cA : Nat → ClassId} {z : Cz} (C : CX shM α D cA z RX11 cX11_tries 9 none 2 46) (x1 : Int32) (x2 : Int32) (x3 : Int32) (s0 : Int32) (σ : St) : RX emV shM α D cA z 9 σ 32 [(0, .ref (α 0)), (1, .int x1), (2, .int x2), (3, .int x3)] [.int s0] (f_X11_tries_32 x1 x2 x3 s0 σ) := by
  unfold f_X11_tries_32
  refine rx_istore C [(6, .int s0), (0, .ref (α 0)), (1, .int x1), (2, .int x2), (3, .int x3)] dX11_tries_32 (by decide) rfl ?_
  refine rx_iconst C dX11_tries_34 ic_0 ?_
  refine rx_istore C [(7, .int (0 : Int32)), (6, .int s0), (0, .ref (α 0)), (1, .int x1), (2, .int x2), (3, .int x3)] dX11_tries_35 (by decide) rfl ?_
  refine rx_iconst C dX11_tries_37 ic_0 ?_
  refine rx_istore C [(8, .int (0 : Int32)), (7, .int (0 : Int32)), (6, .int s0), (0, .ref (α 0)), (1, .int x1), (2, .int x2), (3, .int x3)] dX11_tries_38 (by decide) rfl ?_
  exact RX.loc (w_X11_tries_40 C FU x1 x2 x3 s0 (0 : Int32) (0 : Int32) σ) [3, 4, 5, 6, 2, 1, 0] rfl
set_option maxRecDepth 100000 in
set_option maxHeartbeats 4000000 in
theorem w_X11_tries_e {α : Nat → Nat} {D : va_G} {cA : Nat → ClassId} {z : Cz} (C : CX shM α D cA z RX11 cX11_tries 9 none 2 46) (x1 : Int32) (x2 : Int32) (x3 : Int32) (σ : St) : RX emV shM α D cA z 9 σ 0 [(0, .ref (α 0)), (1, .int x1), (2, .int x2), (3, .int x3)] [] (f_X11_tries x1 x2 x3 σ) := by
  unfold f_X11_tries
  refine rx_aload_n C 0 dX11_tries_0 rfl rfl ?_
  refine rx_iload_n C 1 dX11_tries_1 rfl rfl ?_
  refine rx_callVi C [.int x1] [] (m_X11_lengthOf z.l C.inj x1 σ) mv_X11_lengthOf lk_X11_474 sm_0 rfl rfl rfl (Nat.le_of_ble_eq_true rfl) ⟨Nat.le_of_ble_eq_true rfl, Nat.le_of_ble_eq_true rfl⟩ dX11_tries_2 (fun q10 => ?_)
  refine rx_istore C [(4, .int q10.1), (0, .ref (α 0)), (1, .int x1), (2, .int x2), (3, .int x3)] dX11_tries_5 (by decide) rfl ?_
  refine rx_aload_n C 1 dX11_tries_7 rfl rfl ?_
  refine rx_iload_n C 3 dX11_tries_8 rfl rfl ?_
  refine rx_callVi C [.int x2] [] (m_X11_lengthOf z.l C.inj x2 q10.2) mv_X11_lengthOf lk_X11_474 sm_0 rfl rfl rfl (Nat.le_of_ble_eq_true rfl) ⟨Nat.le_of_ble_eq_true rfl, Nat.le_of_ble_eq_true rfl⟩ dX11_tries_9 (fun q11 => ?_)
  refine rx_istore C [(5, .int q11.1), (4, .int q10.1), (0, .ref (α 0)), (1, .int x1), (2, .int x2), (3, .int x3)] dX11_tries_12 (by decide) rfl ?_
  refine rx_iload C 1 dX11_tries_14 rfl ?_
  refine rx_iload_n C 5 dX11_tries_16 rfl rfl ?_
  refine rx_isub C dX11_tries_17 ?_
  refine rx_iload C 0 dX11_tries_18 rfl ?_
  refine rx_icmp_ge C (tgt := 30) dX11_tries_20 (by decide) (fun _ => ?_) (fun _ => ?_)
  · refine rx_iload C 0 dX11_tries_30 rfl ?_
    exact RX.loc (w_X11_tries_32 C x1 x2 x3 q11.1 q11.2) [2, 3, 4, 5] rfl
  · refine rx_iload C 1 dX11_tries_23 rfl ?_
    refine rx_iload_n C 5 dX11_tries_25 rfl rfl ?_
    refine rx_isub C dX11_tries_26 ?_
    refine rx_goto C (tgt := 32) dX11_tries_27 (by decide) ?_
    exact RX.loc (w_X11_tries_32 C x1 x2 x3 (q10.1 - x3) q11.2) [2, 3, 4, 5] rfl
theorem m_X11_tries (l : Launch) {α : Nat → Nat} {D : va_G} {cA : Nat → ClassId} (hin : inj shM.length α) (x1 : Int32) (x2 : Int32) (x3 : Int32) (σ : St) : CT shM l yX11_tries cX11_tries 9 none 2 46 emV α D cA [.ref (α 0), .int x1, .int x2, .int x3] σ (f_X11_tries x1 x2 x3 σ) := ct_of rfl (Nat.le_of_ble_eq_true rfl) hin (fun z _ C => w_X11_tries_e C x1 x2 x3 σ)
set_option maxRecDepth 100000 in
set_option maxHeartbeats 4000000 in
theorem w_X11_row_30 {α : Nat → Nat} {D : va_G} {cA : Nat → ClassId} {z : Cz} (C : CX shM α D cA z RX11 cX11_row 5 (some .int) 3 74) (σ : St) : RX emI shM α D cA z 5 σ 30 [] [] (f_X11_row_30 σ) := by
  unfold f_X11_row_30
  refine rx_iconst C dX11_row_30 ic_m1 ?_
  exact rx_iret C dX11_row_31
set_option maxRecDepth 100000 in
set_option maxHeartbeats 4000000 in
theorem w_X11_row_147 {α : Nat → Nat} {D : va_G} {cA : Nat → ClassId} {z : Cz} (C : CX shM α D cA z RX11 cX11_row 5 (some .int) 3 74) (s0 : Int32) (σ : St) : RX emI shM α D cA z 5 σ 147 [] [.int s0] (f_X11_row_147 s0 σ) := by
  unfold f_X11_row_147
  exact rx_iret C dX11_row_147
set_option maxRecDepth 100000 in
set_option maxHeartbeats 4000000 in
theorem w_X11_row_72 {α : Nat → Nat} {D : va_G} {cA : Nat → ClassId} {z : Cz} (C : CX shM α D cA z RX11 cX11_row 5 (some .int) 3 74) : ∀ (n : Nat) (x1 : Int32) (x2 : Int32) (x3 : Int32) (x4 : Int32) (σ : St), RX emI shM α D cA z 5 σ 72 [(0, .ref (α 0)), (1, .int x1), (2, .int x2), (3, .int x3), (4, .int x4)] [] (f_X11_row_72 n x1 x2 x3 x4 σ) := by
  intro n
  induction n with
  | zero => intros; exact rx_none
  | succ n hk_72 =>
    intro x1 x2 x3 x4 σ
    rw [f_X11_row_72.eq_2]
    refine rx_iload C 4 dX11_row_72 rfl ?_
    refine rx_aload_n C 0 dX11_row_74 rfl rfl ?_
    refine rx_iload_n C 2 dX11_row_75 rfl rfl ?_
    refine rx_callVi C [.int x2] [.int x4] (m_X11_lengthOf z.l C.inj x2 σ) mv_X11_lengthOf lk_X11_474 sm_0 rfl rfl rfl (Nat.le_of_ble_eq_true rfl) ⟨Nat.le_of_ble_eq_true rfl, Nat.le_of_ble_eq_true rfl⟩ dX11_row_76 (fun q20 => ?_)
    refine rx_icmp_ge C (tgt := 96) dX11_row_79 (by decide) (fun _ => ?_) (fun _ => ?_)
    · refine rx_iload_n C 3 dX11_row_96 rfl rfl ?_
      refine rx_if_ne C (tgt := 119) dX11_row_97 (by decide) (fun _ => ?_) (fun _ => ?_)
      · refine rx_aload_n C 0 dX11_row_100 rfl rfl ?_
        refine rx_iload_n C 1 dX11_row_101 rfl rfl ?_
        refine rx_callVi C [.int x1] [] (m_X11_lengthOf z.l C.inj x1 q20.2) mv_X11_lengthOf lk_X11_474 sm_0 rfl rfl rfl (Nat.le_of_ble_eq_true rfl) ⟨Nat.le_of_ble_eq_true rfl, Nat.le_of_ble_eq_true rfl⟩ dX11_row_102 (fun q21 => ?_)
        refine rx_aload_n C 0 dX11_row_105 rfl rfl ?_
        refine rx_iload_n C 2 dX11_row_106 rfl rfl ?_
        refine rx_callVi C [.int x2] [.int q21.1] (m_X11_lengthOf z.l C.inj x2 q21.2) mv_X11_lengthOf lk_X11_474 sm_0 rfl rfl rfl (Nat.le_of_ble_eq_true rfl) ⟨Nat.le_of_ble_eq_true rfl, Nat.le_of_ble_eq_true rfl⟩ dX11_row_107 (fun q22 => ?_)
        refine rx_iadd C dX11_row_110 ?_
        refine rx_aload_n C 0 dX11_row_111 rfl rfl ?_
        refine rx_getI C (k := 68) sm_0 fc_X11 (by decide) rfl lk_X11_219 dX11_row_112 ?_
        refine rx_isub C dX11_row_115 ?_
        refine rx_goto C (tgt := 147) dX11_row_116 (by decide) ?_
        exact RX.loc (w_X11_row_147 C ((q21.1 + q22.1) - (gI q22.2 0 68)) q22.2) [] rfl
      · refine rx_iload_n C 3 dX11_row_119 rfl rfl ?_
        refine rx_iconst C dX11_row_120 ic_1 ?_
        refine rx_icmp_ne C (tgt := 143) dX11_row_121 (by decide) (fun _ => ?_) (fun _ => ?_)
        · refine rx_aload_n C 0 dX11_row_124 rfl rfl ?_
          refine rx_iload_n C 1 dX11_row_125 rfl rfl ?_
          refine rx_callVi C [.int x1] [] (m_X11_ouncesOf z.l C.inj x1 q20.2) mv_X11_ouncesOf lk_X11_439 sm_0 rfl rfl rfl (Nat.le_of_ble_eq_true rfl) ⟨Nat.le_of_ble_eq_true rfl, Nat.le_of_ble_eq_true rfl⟩ dX11_row_126 (fun q23 => ?_)
          refine rx_aload_n C 0 dX11_row_129 rfl rfl ?_
          refine rx_iload_n C 2 dX11_row_130 rfl rfl ?_
          refine rx_callVi C [.int x2] [.int q23.1] (m_X11_ouncesOf z.l C.inj x2 q23.2) mv_X11_ouncesOf lk_X11_439 sm_0 rfl rfl rfl (Nat.le_of_ble_eq_true rfl) ⟨Nat.le_of_ble_eq_true rfl, Nat.le_of_ble_eq_true rfl⟩ dX11_row_131 (fun q24 => ?_)
          refine rx_iadd C dX11_row_134 ?_
          refine rx_aload_n C 0 dX11_row_135 rfl rfl ?_
          refine rx_getI C (k := 69) sm_0 fc_X11 (by decide) rfl lk_X11_222 dX11_row_136 ?_
          refine rx_isub C dX11_row_139 ?_
          refine rx_goto C (tgt := 147) dX11_row_140 (by decide) ?_
          exact RX.loc (w_X11_row_147 C ((q23.1 + q24.1) - (gI q24.2 0 69)) q24.2) [] rfl
        · refine rx_aload_n C 0 dX11_row_143 rfl rfl ?_
          refine rx_getI C (k := 68) sm_0 fc_X11 (by decide) rfl lk_X11_219 dX11_row_144 ?_
          exact RX.loc (w_X11_row_147 C (gI q20.2 0 68) q20.2) [] rfl
    · refine rx_aload_n C 0 dX11_row_82 rfl rfl ?_
      refine rx_iload_n C 2 dX11_row_83 rfl rfl ?_
      refine rx_iload_n C 1 dX11_row_84 rfl rfl ?_
      refine rx_iload C 4 dX11_row_85 rfl ?_
      refine rx_callVv C [.int x2, .int x1, .int x4] [] (m_X11_tries z.l C.inj x2 x1 x4 q20.2) mv_X11_tries lk_X11_575 sm_0 rfl rfl rfl (Nat.le_of_ble_eq_true rfl) ⟨Nat.le_of_ble_eq_true rfl, Nat.le_of_ble_eq_true rfl⟩ dX11_row_87 (fun q25 => ?_)
      refine rx_iinc C (k0 := 4) (v := x4 + (1 : Int32)) [(4, .int (x4 + (1 : Int32))), (0, .ref (α 0)), (1, .int x1), (2, .int x2), (3, .int x3)] dX11_row_90 rfl (congrArg _ ic_1) (by decide) rfl ?_
      refine rx_goto C (tgt := 72) dX11_row_93 (by decide) ?_
      exact RX.loc (hk_72 x1 x2 x3 (x4 + (1 : Int32)) q25.2) [1, 2, 3, 4, 0] rfl
set_option maxRecDepth 100000 in
set_option maxHeartbeats 4000000 in
theorem w_X11_row_45 {α : Nat → Nat} {D : va_G} {cA : Nat → ClassId} {z : Cz} (C : CX shM α D cA z RX11 cX11_row 5 (some .int) 3 74) : ∀ (n : Nat) (x1 : Int32) (x2 : Int32) (x3 : Int32) (x4 : Int32) (σ : St), RX emI shM α D cA z 5 σ 45 [(0, .ref (α 0)), (1, .int x1), (2, .int x2), (3, .int x3), (4, .int x4)] [] (f_X11_row_45 n x1 x2 x3 x4 σ) := by
  intro n
  induction n with
  | zero => intros; exact rx_none
  | succ n hk_45 =>
    intro x1 x2 x3 x4 σ
    rw [f_X11_row_45.eq_2]
    refine rx_iload C 4 dX11_row_45 rfl ?_
    refine rx_aload_n C 0 dX11_row_47 rfl rfl ?_
    refine rx_iload_n C 1 dX11_row_48 rfl rfl ?_
    refine rx_callVi C [.int x1] [.int x4] (m_X11_lengthOf z.l C.inj x1 σ) mv_X11_lengthOf lk_X11_474 sm_0 rfl rfl rfl (Nat.le_of_ble_eq_true rfl) ⟨Nat.le_of_ble_eq_true rfl, Nat.le_of_ble_eq_true rfl⟩ dX11_row_49 (fun q19 => ?_)
    refine rx_icmp_ge C (tgt := 69) dX11_row_52 (by decide) (fun _ => ?_) (fun _ => ?_)
    · refine rx_iconst C dX11_row_69 ic_0 ?_
      refine rx_istore C [(4, .int (0 : Int32)), (0, .ref (α 0)), (1, .int x1), (2, .int x2), (3, .int x3)] dX11_row_70 (by decide) rfl ?_
      exact RX.loc (w_X11_row_72 C FU x1 x2 x3 (0 : Int32) q19.2) [1, 2, 3, 4, 0] rfl
    · refine rx_aload_n C 0 dX11_row_55 rfl rfl ?_
      refine rx_iload_n C 1 dX11_row_56 rfl rfl ?_
      refine rx_iload_n C 2 dX11_row_57 rfl rfl ?_
      refine rx_iload C 4 dX11_row_58 rfl ?_
      refine rx_callVv C [.int x1, .int x2, .int x4] [] (m_X11_tries z.l C.inj x1 x2 x4 q19.2) mv_X11_tries lk_X11_575 sm_0 rfl rfl rfl (Nat.le_of_ble_eq_true rfl) ⟨Nat.le_of_ble_eq_true rfl, Nat.le_of_ble_eq_true rfl⟩ dX11_row_60 (fun q26 => ?_)
      refine rx_iinc C (k0 := 4) (v := x4 + (1 : Int32)) [(4, .int (x4 + (1 : Int32))), (0, .ref (α 0)), (1, .int x1), (2, .int x2), (3, .int x3)] dX11_row_63 rfl (congrArg _ ic_1) (by decide) rfl ?_
      refine rx_goto C (tgt := 45) dX11_row_66 (by decide) ?_
      exact RX.loc (hk_45 x1 x2 x3 (x4 + (1 : Int32)) q26.2) [1, 2, 3, 4, 0] rfl
set_option maxRecDepth 100000 in
set_option maxHeartbeats 4000000 in
theorem w_X11_row_e {α : Nat → Nat} {D : va_G} {cA : Nat → ClassId} {z : Cz} (C : CX shM α D cA z RX11 cX11_row 5 (some .int) 3 74) (x1 : Int32) (x2 : Int32) (x3 : Int32) (σ : St) : RX emI shM α D cA z 5 σ 0 [(0, .ref (α 0)), (1, .int x1), (2, .int x2), (3, .int x3)] [] (f_X11_row x1 x2 x3 σ) := by
  unfold f_X11_row
  refine rx_aload_n C 0 dX11_row_0 rfl rfl ?_
  refine rx_iload_n C 1 dX11_row_1 rfl rfl ?_
  refine rx_callVi C [.int x1] [] (m_X11_isTitle z.l C.inj x1 σ) mv_X11_isTitle lk_X11_467 sm_0 rfl rfl rfl (Nat.le_of_ble_eq_true rfl) ⟨Nat.le_of_ble_eq_true rfl, Nat.le_of_ble_eq_true rfl⟩ dX11_row_2 (fun q14 => ?_)
  refine rx_if_eq C (tgt := 30) dX11_row_5 (by decide) (fun _ => ?_) (fun _ => ?_)
  · exact RX.loc (w_X11_row_30 C q14.2) [] rfl
  · refine rx_aload_n C 0 dX11_row_8 rfl rfl ?_
    refine rx_iload_n C 2 dX11_row_9 rfl rfl ?_
    refine rx_callVi C [.int x2] [] (m_X11_isTitle z.l C.inj x2 q14.2) mv_X11_isTitle lk_X11_467 sm_0 rfl rfl rfl (Nat.le_of_ble_eq_true rfl) ⟨Nat.le_of_ble_eq_true rfl, Nat.le_of_ble_eq_true rfl⟩ dX11_row_10 (fun q15 => ?_)
    refine rx_if_eq C (tgt := 30) dX11_row_13 (by decide) (fun _ => ?_) (fun _ => ?_)
    · exact RX.loc (w_X11_row_30 C q15.2) [] rfl
    · refine rx_iload_n C 1 dX11_row_16 rfl rfl ?_
      refine rx_iload_n C 2 dX11_row_17 rfl rfl ?_
      refine rx_icmp_eq C (tgt := 30) dX11_row_18 (by decide) (fun _ => ?_) (fun _ => ?_)
      · exact RX.loc (w_X11_row_30 C q15.2) [] rfl
      · refine rx_iload_n C 3 dX11_row_21 rfl rfl ?_
        refine rx_iconst C dX11_row_22 ic_0 ?_
        refine rx_iconst C dX11_row_23 ic_2 ?_
        refine rx_callSi C [.int x3, .int (0 : Int32), .int (2 : Int32)] [] (m_X11_is z.l C.inj x3 (0 : Int32) (2 : Int32) q15.2) ms_X11_is lk_X11_309 rfl rfl (Nat.le_of_ble_eq_true rfl) ⟨Nat.le_of_ble_eq_true rfl, Nat.le_of_ble_eq_true rfl⟩ dX11_row_24 (fun q16 => ?_)
        refine rx_if_ne C (tgt := 32) dX11_row_27 (by decide) (fun _ => ?_) (fun _ => ?_)
        · exact RX.loc (w_X11_row_30 C q16.2) [] rfl
        · refine rx_aload_n C 0 dX11_row_32 rfl rfl ?_
          refine rx_iconst C dX11_row_33 ic_0 ?_
          refine rx_putI C (k := 68) sm_0 fc_X11 (by decide) rfl lk_X11_219 rfl ⟨rfl, rfl⟩ dX11_row_34 ?_
          refine rx_lts (fun σ17 => ?_)
          refine rx_aload_n C 0 dX11_row_37 rfl rfl ?_
          refine rx_iconst C dX11_row_38 ic_0 ?_
          refine rx_putI C (k := 69) sm_0 fc_X11 (by decide) rfl lk_X11_222 rfl ⟨rfl, rfl⟩ dX11_row_39 ?_
          refine rx_lts (fun σ18 => ?_)
          refine rx_iconst C dX11_row_42 ic_0 ?_
          refine rx_istore C [(4, .int (0 : Int32)), (0, .ref (α 0)), (1, .int x1), (2, .int x2), (3, .int x3)] dX11_row_43 (by decide) rfl ?_
          exact RX.loc (w_X11_row_45 C FU x1 x2 x3 (0 : Int32) σ18) [1, 2, 3, 4, 0] rfl
theorem m_X11_row (l : Launch) {α : Nat → Nat} {D : va_G} {cA : Nat → ClassId} (hin : inj shM.length α) (x1 : Int32) (x2 : Int32) (x3 : Int32) (σ : St) : CT shM l yX11_row cX11_row 5 (some .int) 3 74 emI α D cA [.ref (α 0), .int x1, .int x2, .int x3] σ (f_X11_row x1 x2 x3 σ) := ct_of rfl (Nat.le_of_ble_eq_true rfl) hin (fun z _ C => w_X11_row_e C x1 x2 x3 σ)
