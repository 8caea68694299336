set_option maxRecDepth 100000 in
set_option maxHeartbeats 4000000 in
theorem w_X11_calledBy_88 {α : Nat → Nat} {D : va_G} {cA : Nat → ClassId} {z : Cz} (C : CX shM α D cA z RX11 cX11_calledBy 6 (some .int) 2 49) (k_4 : Int32 → Int32 → Int32 → St → Option (Int32 × St)) (hk_4 : ∀ (x1 : Int32) (x2 : Int32) (x3 : Int32) (σ : St), RX emI shM α D cA z 6 σ 4 [(0, .ref (α 0)), (1, .int x1), (2, .int x2), (3, .int x3)] [] (k_4 x1 x2 x3 σ)) (x1 : Int32) (x3 : Int32) (s1 : Int32) (s0 : Int32) (σ : St) : RX emI shM α D cA z 6 σ 88 [(0, .ref (α 0)), (1, .int x1), (3, .int x3)] [.int s1, .int s0] (f_X11_calledBy_88 k_4 x1 x3 s1 s0 σ) := by
  unfold f_X11_calledBy_88
  refine rx_ior C dX11_calledBy_88 ?_
  refine rx_lti (fun w5 => ?_)
  refine rx_istore_n C [(2, .int w5), (0, .ref (α 0)), (1, .int x1), (3, .int x3)] dX11_calledBy_89 rfl (by decide) rfl ?_
  refine rx_iinc C (k0 := 3) (v := x3 + (1 : Int32)) [(3, .int (x3 + (1 : Int32))), (2, .int w5), (0, .ref (α 0)), (1, .int x1)] dX11_calledBy_90 rfl (congrArg _ ic_1) (by decide) rfl ?_
  refine rx_goto C (tgt := 4) dX11_calledBy_93 (by decide) ?_
  exact RX.loc (hk_4 x1 w5 (x3 + (1 : Int32)) σ) [2, 3, 1, 0] rfl
set_option maxRecDepth 100000 in
set_option maxHeartbeats 4000000 in
theorem w_X11_calledBy_67 {α : Nat → Nat} {D : va_G} {cA : Nat → ClassId} {z : Cz} (C : CX shM α D cA z RX11 cX11_calledBy 6 (some .int) 2 49) (k_4 : Int32 → Int32 → Int32 → St → Option (Int32 × St)) (hk_4 : ∀ (x1 : Int32) (x2 : Int32) (x3 : Int32) (σ : St), RX emI shM α D cA z 6 σ 4 [(0, .ref (α 0)), (1, .int x1), (2, .int x2), (3, .int x3)] [] (k_4 x1 x2 x3 σ)) (k_23 : Int32 → Int32 → Int32 → Int32 → Int32 → St → Option (Int32 × St)) (hk_23 : ∀ (x1 : Int32) (x2 : Int32) (x3 : Int32) (x4 : Int32) (x5 : Int32) (σ : St), RX emI shM α D cA z 6 σ 23 [(0, .ref (α 0)), (1, .int x1), (2, .int x2), (3, .int x3), (4, .int x4), (5, .int x5)] [] (k_23 x1 x2 x3 x4 x5 σ)) (x1 : Int32) (x2 : Int32) (x3 : Int32) (x5 : Int32) (s0 : Int32) (σ : St) : RX emI shM α D cA z 6 σ 67 [(0, .ref (α 0)), (1, .int x1), (2, .int x2), (3, .int x3), (5, .int x5)] [.int s0] (f_X11_calledBy_67 k_4 k_23 x1 x2 x3 x5 s0 σ) := by
  unfold f_X11_calledBy_67
  refine rx_istore C [(4, .int s0), (0, .ref (α 0)), (1, .int x1), (2, .int x2), (3, .int x3), (5, .int x5)] dX11_calledBy_67 (by decide) rfl ?_
  refine rx_iinc C (k0 := 5) (v := x5 + (1 : Int32)) [(5, .int (x5 + (1 : Int32))), (4, .int s0), (0, .ref (α 0)), (1, .int x1), (2, .int x2), (3, .int x3)] dX11_calledBy_69 rfl (congrArg _ ic_1) (by decide) rfl ?_
  refine rx_goto C (tgt := 23) dX11_calledBy_72 (by decide) ?_
  exact RX.loc (hk_23 x1 x2 x3 s0 (x5 + (1 : Int32)) σ) [2, 3, 4, 5, 1, 0] rfl
set_option maxRecDepth 100000 in
set_option maxHeartbeats 4000000 in
theorem w_X11_calledBy_66 {α : Nat → Nat} {D : va_G} {cA : Nat → ClassId} {z : Cz} (C : CX shM α D cA z RX11 cX11_calledBy 6 (some .int) 2 49) (k_4 : Int32 → Int32 → Int32 → St → Option (Int32 × St)) (hk_4 : ∀ (x1 : Int32) (x2 : Int32) (x3 : Int32) (σ : St), RX emI shM α D cA z 6 σ 4 [(0, .ref (α 0)), (1, .int x1), (2, .int x2), (3, .int x3)] [] (k_4 x1 x2 x3 σ)) (k_23 : Int32 → Int32 → Int32 → Int32 → Int32 → St → Option (Int32 × St)) (hk_23 : ∀ (x1 : Int32) (x2 : Int32) (x3 : Int32) (x4 : Int32) (x5 : Int32) (σ : St), RX emI shM α D cA z 6 σ 23 [(0, .ref (α 0)), (1, .int x1), (2, .int x2), (3, .int x3), (4, .int x4), (5, .int x5)] [] (k_23 x1 x2 x3 x4 x5 σ)) (x1 : Int32) (x2 : Int32) (x3 : Int32) (x5 : Int32) (σ : St) : RX emI shM α D cA z 6 σ 66 [(0, .ref (α 0)), (1, .int x1), (2, .int x2), (3, .int x3), (5, .int x5)] [] (f_X11_calledBy_66 k_4 k_23 x1 x2 x3 x5 σ) := by
  unfold f_X11_calledBy_66
  refine rx_iconst C dX11_calledBy_66 ic_0 ?_
  exact RX.loc (w_X11_calledBy_67 C k_4 hk_4 k_23 hk_23 x1 x2 x3 x5 (0 : Int32) σ) [0, 1, 2, 3, 4] rfl
set_option maxRecDepth 100000 in
set_option maxHeartbeats 4000000 in
theorem w_X11_calledBy_62 {α : Nat → Nat} {D : va_G} {cA : Nat → ClassId} {z : Cz} (C : CX shM α D cA z RX11 cX11_calledBy 6 (some .int) 2 49) (k_4 : Int32 → Int32 → Int32 → St → Option (Int32 × St)) (hk_4 : ∀ (x1 : Int32) (x2 : Int32) (x3 : Int32) (σ : St), RX emI shM α D cA z 6 σ 4 [(0, .ref (α 0)), (1, .int x1), (2, .int x2), (3, .int x3)] [] (k_4 x1 x2 x3 σ)) (k_23 : Int32 → Int32 → Int32 → Int32 → Int32 → St → Option (Int32 × St)) (hk_23 : ∀ (x1 : Int32) (x2 : Int32) (x3 : Int32) (x4 : Int32) (x5 : Int32) (σ : St), RX emI shM α D cA z 6 σ 23 [(0, .ref (α 0)), (1, .int x1), (2, .int x2), (3, .int x3), (4, .int x4), (5, .int x5)] [] (k_23 x1 x2 x3 x4 x5 σ)) (x1 : Int32) (x2 : Int32) (x3 : Int32) (x5 : Int32) (σ : St) : RX emI shM α D cA z 6 σ 62 [(0, .ref (α 0)), (1, .int x1), (2, .int x2), (3, .int x3), (5, .int x5)] [] (f_X11_calledBy_62 k_4 k_23 x1 x2 x3 x5 σ) := by
  unfold f_X11_calledBy_62
  refine rx_iconst C dX11_calledBy_62 ic_1 ?_
  refine rx_goto C (tgt := 67) dX11_calledBy_63 (by decide) ?_
  exact RX.loc (w_X11_calledBy_67 C k_4 hk_4 k_23 hk_23 x1 x2 x3 x5 (1 : Int32) σ) [0, 1, 2, 3, 4] rfl
set_option maxRecDepth 100000 in
set_option maxHeartbeats 4000000 in
theorem w_X11_calledBy_23 {α : Nat → Nat} {D : va_G} {cA : Nat → ClassId} {z : Cz} (C : CX shM α D cA z RX11 cX11_calledBy 6 (some .int) 2 49) (k_4 : Int32 → Int32 → Int32 → St → Option (Int32 × St)) (hk_4 : ∀ (x1 : Int32) (x2 : Int32) (x3 : Int32) (σ : St), RX emI shM α D cA z 6 σ 4 [(0, .ref (α 0)), (1, .int x1), (2, .int x2), (3, .int x3)] [] (k_4 x1 x2 x3 σ)) : ∀ (n : Nat) (x1 : Int32) (x2 : Int32) (x3 : Int32) (x4 : Int32) (x5 : Int32) (σ : St), RX emI shM α D cA z 6 σ 23 [(0, .ref (α 0)), (1, .int x1), (2, .int x2), (3, .int x3), (4, .int x4), (5, .int x5)] [] (f_X11_calledBy_23 k_4 n x1 x2 x3 x4 x5 σ) := by
  intro n
  induction n with
  | zero => intros; exact rx_none
  | succ n hk_23 =>
    intro x1 x2 x3 x4 x5 σ
    rw [f_X11_calledBy_23.eq_2]
    refine rx_iload C 5 dX11_calledBy_23 rfl ?_
    refine rx_bipush C dX11_calledBy_25 bp_26 ?_
    refine rx_icmp_ge C (tgt := 75) dX11_calledBy_27 (by decide) (fun _ => ?_) (fun _ => ?_)
    · refine rx_iload_n C 2 dX11_calledBy_75 rfl rfl ?_
      refine rx_iload C 4 dX11_calledBy_76 rfl ?_
      refine rx_if_eq C (tgt := 87) dX11_calledBy_78 (by decide) (fun _ => ?_) (fun _ => ?_)
      · refine rx_iconst C dX11_calledBy_87 ic_0 ?_
        exact RX.loc (w_X11_calledBy_88 C k_4 hk_4 x1 x3 (0 : Int32) x2 σ) [0, 1, 3] rfl
      · refine rx_iconst C dX11_calledBy_81 ic_1 ?_
        refine rx_iload_n C 3 dX11_calledBy_82 rfl rfl ?_
        refine rx_ishl C dX11_calledBy_83 ?_
        refine rx_goto C (tgt := 88) dX11_calledBy_84 (by decide) ?_
        exact RX.loc (w_X11_calledBy_88 C k_4 hk_4 x1 x3 ((1 : Int32) <<< (x3 &&& 31)) x2 σ) [0, 1, 3] rfl
    · refine rx_iload C 4 dX11_calledBy_30 rfl ?_
      refine rx_if_eq C (tgt := 66) dX11_calledBy_32 (by decide) (fun _ => ?_) (fun _ => ?_)
      · exact RX.loc (w_X11_calledBy_66 C k_4 hk_4 (f_X11_calledBy_23 k_4 n) hk_23 x1 x2 x3 x5 σ) [0, 1, 2, 3, 5] rfl
      · refine rx_aload_n C 0 dX11_calledBy_35 rfl rfl ?_
        refine rx_iload_n C 3 dX11_calledBy_36 rfl rfl ?_
        refine rx_iload C 5 dX11_calledBy_37 rfl ?_
        refine rx_callVi C [.int x3, .int x5] [] (m_X11_often z.l C.inj x3 x5 σ) mv_X11_often lk_X11_477 sm_0 rfl rfl rfl (Nat.le_of_ble_eq_true rfl) ⟨Nat.le_of_ble_eq_true rfl, Nat.le_of_ble_eq_true rfl⟩ dX11_calledBy_39 (fun q6 => ?_)
        refine rx_if_eq C (tgt := 62) dX11_calledBy_42 (by decide) (fun _ => ?_) (fun _ => ?_)
        · exact RX.loc (w_X11_calledBy_62 C k_4 hk_4 (f_X11_calledBy_23 k_4 n) hk_23 x1 x2 x3 x5 q6.2) [0, 1, 2, 3, 5] rfl
        · refine rx_aload_n C 0 dX11_calledBy_45 rfl rfl ?_
          refine rx_iload_n C 3 dX11_calledBy_46 rfl rfl ?_
          refine rx_iload C 5 dX11_calledBy_47 rfl ?_
          refine rx_callVi C [.int x3, .int x5] [] (m_X11_often z.l C.inj x3 x5 q6.2) mv_X11_often lk_X11_477 sm_0 rfl rfl rfl (Nat.le_of_ble_eq_true rfl) ⟨Nat.le_of_ble_eq_true rfl, Nat.le_of_ble_eq_true rfl⟩ dX11_calledBy_49 (fun q7 => ?_)
          refine rx_aload_n C 0 dX11_calledBy_52 rfl rfl ?_
          refine rx_iload_n C 1 dX11_calledBy_53 rfl rfl ?_
          refine rx_iload C 5 dX11_calledBy_54 rfl ?_
          refine rx_callVi C [.int x1, .int x5] [.int q7.1] (m_X11_allOf z.l C.inj x1 x5 q7.2) mv_X11_allOf lk_X11_480 sm_0 rfl rfl rfl (Nat.le_of_ble_eq_true rfl) ⟨Nat.le_of_ble_eq_true rfl, Nat.le_of_ble_eq_true rfl⟩ dX11_calledBy_56 (fun q8 => ?_)
          refine rx_icmp_gt C (tgt := 66) dX11_calledBy_59 (by decide) (fun _ => ?_) (fun _ => ?_)
          · exact RX.loc (w_X11_calledBy_66 C k_4 hk_4 (f_X11_calledBy_23 k_4 n) hk_23 x1 x2 x3 x5 q8.2) [0, 1, 2, 3, 5] rfl
          · exact RX.loc (w_X11_calledBy_62 C k_4 hk_4 (f_X11_calledBy_23 k_4 n) hk_23 x1 x2 x3 x5 q8.2) [0, 1, 2, 3, 5] rfl
set_option maxRecDepth 100000 in
set_option maxHeartbeats 4000000 in
theorem w_X11_calledBy_4 {α : Nat → Nat} {D : va_G} {cA : Nat → ClassId} {z : Cz} (C : CX shM α D cA z RX11 cX11_calledBy 6 (some .int) 2 49) : ∀ (n : Nat) (x1 : Int32) (x2 : Int32) (x3 : Int32) (σ : St), RX emI shM α D cA z 6 σ 4 [(0, .ref (α 0)), (1, .int x1), (2, .int x2), (3, .int x3)] [] (f_X11_calledBy_4 n x1 x2 x3 σ) := by
  intro n
  induction n with
  | zero => intros; exact rx_none
  | succ n hk_4 =>
    intro x1 x2 x3 σ
    rw [f_X11_calledBy_4.eq_2]
    refine rx_iload_n C 3 dX11_calledBy_4 rfl rfl ?_
    refine rx_aload_n C 0 dX11_calledBy_5 rfl rfl ?_
    refine rx_getC C (k := 20) sm_0 fc_X11 (by decide) 9 rfl lk_X11_73 dX11_calledBy_6 ?_
    refine rx_aload_n C 0 dX11_calledBy_9 rfl rfl ?_
    refine rx_getI C (k := 12) sm_0 fc_X11 (by decide) rfl lk_X11_48 dX11_calledBy_10 ?_
    refine rx_iald C (n := 2) sm_9 dX11_calledBy_13 (fun _ => ?_)
    refine rx_icmp_ge C (tgt := 96) dX11_calledBy_14 (by decide) (fun _ => ?_) (fun _ => ?_)
    · refine rx_iload_n C 2 dX11_calledBy_96 rfl rfl ?_
      exact rx_iret C dX11_calledBy_97
    · refine rx_iconst C dX11_calledBy_17 ic_1 ?_
      refine rx_istore C [(4, .int (1 : Int32)), (0, .ref (α 0)), (1, .int x1), (2, .int x2), (3, .int x3)] dX11_calledBy_18 (by decide) rfl ?_
      refine rx_iconst C dX11_calledBy_20 ic_0 ?_
      refine rx_istore C [(5, .int (0 : Int32)), (4, .int (1 : Int32)), (0, .ref (α 0)), (1, .int x1), (2, .int x2), (3, .int x3)] dX11_calledBy_21 (by decide) rfl ?_
      exact RX.loc (w_X11_calledBy_23 C (f_X11_calledBy_4 n) hk_4 FU x1 x2 x3 (1 : Int32) (0 : Int32) σ) [2, 3, 4, 5, 1, 0] rfl
set_option maxRecDepth 100000 in
set_option maxHeartbeats 4000000 in
theorem w_X11_calledBy_e {α : Nat → Nat} {D : va_G} {cA : Nat → ClassId} {z : Cz} (C : CX shM α D cA z RX11 cX11_calledBy 6 (some .int) 2 49) (x1 : Int32) (σ : St) : RX emI shM α D cA z 6 σ 0 [(0, .ref (α 0)), (1, .int x1)] [] (f_X11_calledBy x1 σ) := by
  unfold f_X11_calledBy
  refine rx_iconst C dX11_calledBy_0 ic_0 ?_
  refine rx_istore_n C [(2, .int (0 : Int32)), (0, .ref (α 0)), (1, .int x1)] dX11_calledBy_1 rfl (by decide) rfl ?_
  refine rx_iconst C dX11_calledBy_2 ic_0 ?_
  refine rx_istore_n C [(3, .int (0 : Int32)), (2, .int (0 : Int32)), (0, .ref (α 0)), (1, .int x1)] dX11_calledBy_3 rfl (by decide) rfl ?_
  exact RX.loc (w_X11_calledBy_4 C FU x1 (0 : Int32) (0 : Int32) σ) [2, 3, 1, 0] rfl
theorem m_X11_calledBy (l : Launch) {α : Nat → Nat} {D : va_G} {cA : Nat → ClassId} (hin : inj shM.length α) (x1 : Int32) (σ : St) : CT shM l yX11_calledBy cX11_calledBy 6 (some .int) 2 49 emI α D cA [.ref (α 0), .int x1] σ (f_X11_calledBy x1 σ) := ct_of rfl (Nat.le_of_ble_eq_true rfl) hin (fun z _ C => w_X11_calledBy_e C x1 σ)
set_option maxRecDepth 100000 in
set_option maxHeartbeats 4000000 in
theorem w_X11_person__e {α : Nat → Nat} {D : va_G} {cA : Nat → ClassId} {z : Cz} (C : CX shM α D cA z RX11 cX11_person_ 3 (some .int) 4 100) (x1 : Int32) (x2 : Int32) (σ : St) : RX emI shM α D cA z 3 σ 0 [(0, .ref (α 0)), (1, .int x1), (2, .int x2)] [] (f_X11_person_ x1 x2 σ) := by
  unfold f_X11_person_
  refine rx_aload_n C 0 dX11_person__0 rfl rfl ?_
  refine rx_iload_n C 1 dX11_person__1 rfl rfl ?_
  refine rx_callVi C [.int x1] [] (m_X11_isPerson z.l C.inj x1 σ) mv_X11_isPerson lk_X11_483 sm_0 rfl rfl rfl (Nat.le_of_ble_eq_true rfl) ⟨Nat.le_of_ble_eq_true rfl, Nat.le_of_ble_eq_true rfl⟩ dX11_person__2 (fun q22 => ?_)
  refine rx_if_ne C (tgt := 10) dX11_person__5 (by decide) (fun _ => ?_) (fun _ => ?_)
  · refine rx_iconst C dX11_person__8 ic_m1 ?_
    exact rx_iret C dX11_person__9
  · refine rx_iload_n C 2 dX11_person__10 rfl rfl ?_
    refine rx_if (fun hs23 => ?_) (fun hs23 => ?_)
    · refine rx_tableIn C (tgt := 60) (0 : Int32) hs23 dX11_person__11 (by decide) (by decide) rfl (by decide) ?_
      refine rx_aload_n C 0 dX11_person__60 rfl rfl ?_
      refine rx_iload_n C 1 dX11_person__61 rfl rfl ?_
      refine rx_callVi C [.int x1] [] (m_X11_ageOf z.l C.inj x1 q22.2) mv_X11_ageOf lk_X11_449 sm_0 rfl rfl rfl (Nat.le_of_ble_eq_true rfl) ⟨Nat.le_of_ble_eq_true rfl, Nat.le_of_ble_eq_true rfl⟩ dX11_person__62 (fun q24 => ?_)
      exact rx_iret C dX11_person__65
    refine rx_if (fun hs25 => ?_) (fun hs25 => ?_)
    · refine rx_tableIn C (tgt := 66) (1 : Int32) hs25 dX11_person__11 (by decide) (by decide) rfl (by decide) ?_
      refine rx_aload_n C 0 dX11_person__66 rfl rfl ?_
      refine rx_iload_n C 1 dX11_person__67 rfl rfl ?_
      refine rx_callVi C [.int x1] [] (m_X11_limitOf z.l C.inj x1 q22.2) mv_X11_limitOf lk_X11_486 sm_0 rfl rfl rfl (Nat.le_of_ble_eq_true rfl) ⟨Nat.le_of_ble_eq_true rfl, Nat.le_of_ble_eq_true rfl⟩ dX11_person__68 (fun q26 => ?_)
      exact rx_iret C dX11_person__71
    refine rx_if (fun hs27 => ?_) (fun hs27 => ?_)
    · refine rx_tableIn C (tgt := 72) (2 : Int32) hs27 dX11_person__11 (by decide) (by decide) rfl (by decide) ?_
      refine rx_aload_n C 0 dX11_person__72 rfl rfl ?_
      refine rx_iload_n C 1 dX11_person__73 rfl rfl ?_
      refine rx_callVi C [.int x1] [] (m_X11_loadOf z.l C.inj x1 q22.2) mv_X11_loadOf lk_X11_489 sm_0 rfl rfl rfl (Nat.le_of_ble_eq_true rfl) ⟨Nat.le_of_ble_eq_true rfl, Nat.le_of_ble_eq_true rfl⟩ dX11_person__74 (fun q28 => ?_)
      exact rx_iret C dX11_person__77
    refine rx_if (fun hs29 => ?_) (fun hs29 => ?_)
    · refine rx_tableIn C (tgt := 78) (3 : Int32) hs29 dX11_person__11 (by decide) (by decide) rfl (by decide) ?_
      refine rx_aload_n C 0 dX11_person__78 rfl rfl ?_
      refine rx_aload_n C 0 dX11_person__79 rfl rfl ?_
      refine rx_getC C (k := 53) sm_0 fc_X11 (by decide) 35 rfl lk_X11_174 dX11_person__80 ?_
      refine rx_iload_n C 1 dX11_person__83 rfl rfl ?_
      refine rx_iald C (n := 8) sm_35 dX11_person__84 (fun _ => ?_)
      refine rx_iconst C dX11_person__85 ic_1 ?_
      refine rx_callVi C [.int (gI q22.2 35 (ix x1)), .int (1 : Int32)] [] (m_X11_sumOf z.l C.inj (gI q22.2 35 (ix x1)) (1 : Int32) q22.2) mv_X11_sumOf lk_X11_442 sm_0 rfl rfl rfl (Nat.le_of_ble_eq_true rfl) ⟨Nat.le_of_ble_eq_true rfl, Nat.le_of_ble_eq_true rfl⟩ dX11_person__86 (fun q30 => ?_)
      exact rx_iret C dX11_person__89
    refine rx_if (fun hs31 => ?_) (fun hs31 => ?_)
    · refine rx_tableIn C (tgt := 90) (4 : Int32) hs31 dX11_person__11 (by decide) (by decide) rfl (by decide) ?_
      refine rx_aload_n C 0 dX11_person__90 rfl rfl ?_
      refine rx_getC C (k := 53) sm_0 fc_X11 (by decide) 35 rfl lk_X11_174 dX11_person__91 ?_
      refine rx_iload_n C 1 dX11_person__94 rfl rfl ?_
      refine rx_iald C (n := 8) sm_35 dX11_person__95 (fun _ => ?_)
      exact rx_iret C dX11_person__96
    refine rx_if (fun hs32 => ?_) (fun hs32 => ?_)
    · refine rx_tableIn C (tgt := 97) (5 : Int32) hs32 dX11_person__11 (by decide) (by decide) rfl (by decide) ?_
      refine rx_aload_n C 0 dX11_person__97 rfl rfl ?_
      refine rx_iload_n C 1 dX11_person__98 rfl rfl ?_
      refine rx_callVi C [.int x1] [] (m_X11_looseMany z.l C.inj x1 q22.2) mv_X11_looseMany lk_X11_492 sm_0 rfl rfl rfl (Nat.le_of_ble_eq_true rfl) ⟨Nat.le_of_ble_eq_true rfl, Nat.le_of_ble_eq_true rfl⟩ dX11_person__99 (fun q33 => ?_)
      exact rx_iret C dX11_person__102
    refine rx_if (fun hs34 => ?_) (fun hs34 => ?_)
    · refine rx_tableIn C (tgt := 103) (6 : Int32) hs34 dX11_person__11 (by decide) (by decide) rfl (by decide) ?_
      refine rx_aload_n C 0 dX11_person__103 rfl rfl ?_
      refine rx_sipush C dX11_person__104 sp_4095 ?_
      refine rx_aload_n C 0 dX11_person__107 rfl rfl ?_
      refine rx_iload_n C 1 dX11_person__108 rfl rfl ?_
      refine rx_callVi C [.int x1] [.int (4095 : Int32), .ref (α 0)] (m_X11_limitOf z.l C.inj x1 q22.2) mv_X11_limitOf lk_X11_486 sm_0 rfl rfl rfl (Nat.le_of_ble_eq_true rfl) ⟨Nat.le_of_ble_eq_true rfl, Nat.le_of_ble_eq_true rfl⟩ dX11_person__109 (fun q35 => ?_)
      refine rx_callVi C [.int (4095 : Int32), .int q35.1] [] (m_X11_bestSet z.l C.inj (4095 : Int32) q35.1 q35.2) mv_X11_bestSet lk_X11_495 sm_0 rfl rfl rfl (Nat.le_of_ble_eq_true rfl) ⟨Nat.le_of_ble_eq_true rfl, Nat.le_of_ble_eq_true rfl⟩ dX11_person__112 (fun q36 => ?_)
      exact rx_iret C dX11_person__115
    refine rx_if (fun hs37 => ?_) (fun hs37 => ?_)
    · refine rx_tableIn C (tgt := 116) (7 : Int32) hs37 dX11_person__11 (by decide) (by decide) rfl (by decide) ?_
      refine rx_aload_n C 0 dX11_person__116 rfl rfl ?_
      refine rx_aload_n C 0 dX11_person__117 rfl rfl ?_
      refine rx_sipush C dX11_person__118 sp_4095 ?_
      refine rx_aload_n C 0 dX11_person__121 rfl rfl ?_
      refine rx_iload_n C 1 dX11_person__122 rfl rfl ?_
      refine rx_callVi C [.int x1] [.int (4095 : Int32), .ref (α 0), .ref (α 0)] (m_X11_limitOf z.l C.inj x1 q22.2) mv_X11_limitOf lk_X11_486 sm_0 rfl rfl rfl (Nat.le_of_ble_eq_true rfl) ⟨Nat.le_of_ble_eq_true rfl, Nat.le_of_ble_eq_true rfl⟩ dX11_person__123 (fun q38 => ?_)
      refine rx_callVi C [.int (4095 : Int32), .int q38.1] [.ref (α 0)] (m_X11_bestSet z.l C.inj (4095 : Int32) q38.1 q38.2) mv_X11_bestSet lk_X11_495 sm_0 rfl rfl rfl (Nat.le_of_ble_eq_true rfl) ⟨Nat.le_of_ble_eq_true rfl, Nat.le_of_ble_eq_true rfl⟩ dX11_person__126 (fun q39 => ?_)
      refine rx_iconst C dX11_person__129 ic_1 ?_
      refine rx_callVi C [.int q39.1, .int (1 : Int32)] [] (m_X11_sumOf z.l C.inj q39.1 (1 : Int32) q39.2) mv_X11_sumOf lk_X11_442 sm_0 rfl rfl rfl (Nat.le_of_ble_eq_true rfl) ⟨Nat.le_of_ble_eq_true rfl, Nat.le_of_ble_eq_true rfl⟩ dX11_person__130 (fun q40 => ?_)
      exact rx_iret C dX11_person__133
    refine rx_if (fun hs41 => ?_) (fun hs41 => ?_)
    · refine rx_tableIn C (tgt := 134) (8 : Int32) hs41 dX11_person__11 (by decide) (by decide) rfl (by decide) ?_
      refine rx_aload_n C 0 dX11_person__134 rfl rfl ?_
      refine rx_iload_n C 1 dX11_person__135 rfl rfl ?_
      refine rx_callVi C [.int x1] [] (m_X11_calledBy z.l C.inj x1 q22.2) mv_X11_calledBy lk_X11_498 sm_0 rfl rfl rfl (Nat.le_of_ble_eq_true rfl) ⟨Nat.le_of_ble_eq_true rfl, Nat.le_of_ble_eq_true rfl⟩ dX11_person__136 (fun q42 => ?_)
      exact rx_iret C dX11_person__139
    refine rx_tableOut C (tgt := 140) dX11_person__11 (by have := lv_neT (a := 0) hs23 (by decide); have := lv_neT (a := 1) hs25 (by decide); have := lv_neT (a := 2) hs27 (by decide); have := lv_neT (a := 3) hs29 (by decide); have := lv_neT (a := 4) hs31 (by decide); have := lv_neT (a := 5) hs32 (by decide); have := lv_neT (a := 6) hs34 (by decide); have := lv_neT (a := 7) hs37 (by decide); have := lv_neT (a := 8) hs41 (by decide); omega) (by decide) ?_
    refine rx_iconst C dX11_person__140 ic_m1 ?_
    exact rx_iret C dX11_person__141
theorem m_X11_person_ (l : Launch) {α : Nat → Nat} {D : va_G} {cA : Nat → ClassId} (hin : inj shM.length α) (x1 : Int32) (x2 : Int32) (σ : St) : CT shM l yX11_person_ cX11_person_ 3 (some .int) 4 100 emI α D cA [.ref (α 0), .int x1, .int x2] σ (f_X11_person_ x1 x2 σ) := ct_of rfl (Nat.le_of_ble_eq_true rfl) hin (fun z _ C => w_X11_person__e C x1 x2 σ)
set_option maxRecDepth 100000 in
set_option maxHeartbeats 4000000 in
theorem w_X11_loose_20 {α : Nat → Nat} {D : va_G} {cA : Nat → ClassId} {z : Cz} (C : CX shM α D cA z RX11 cX11_loose 3 (some .int) 2 43) (σ : St) : RX emI shM α D cA z 3 σ 20 [] [] (f_X11_loose_20 σ) := by
  unfold f_X11_loose_20
  refine rx_iconst C dX11_loose_20 ic_m1 ?_
  exact rx_iret C dX11_loose_21
set_option maxRecDepth 100000 in
set_option maxHeartbeats 4000000 in
theorem w_X11_loose_39 {α : Nat → Nat} {D : va_G} {cA : Nat → ClassId} {z : Cz} (C : CX shM α D cA z RX11 cX11_loose 3 (some .int) 2 43) (x2 : Int32) (s2 : Int32) (s1 : Int32) (σ : St) : RX emI shM α D cA z 3 σ 39 [(2, .int x2)] [.int s2, .int s1, .ref (α 36)] (f_X11_loose_39 x2 s2 s1 σ) := by
  unfold f_X11_loose_39
  refine rx_imul C dX11_loose_39 ?_
  refine rx_iload_n C 0 dX11_loose_40 rfl rfl ?_
  refine rx_iadd C dX11_loose_41 ?_
  refine rx_bipush C dX11_loose_42 bp_97 ?_
  refine rx_isub C dX11_loose_44 ?_
  refine rx_iald C (n := 234) sm_36 dX11_loose_45 (fun _ => ?_)
  exact rx_iret C dX11_loose_46
set_option maxRecDepth 100000 in
set_option maxHeartbeats 4000000 in
theorem w_X11_loose_22 {α : Nat → Nat} {D : va_G} {cA : Nat → ClassId} {z : Cz} (C : CX shM α D cA z RX11 cX11_loose 3 (some .int) 2 43) (x1 : Int32) (x2 : Int32) (σ : St) : RX emI shM α D cA z 3 σ 22 [(0, .ref (α 0)), (1, .int x1), (2, .int x2)] [] (f_X11_loose_22 x1 x2 σ) := by
  unfold f_X11_loose_22
  refine rx_aload_n C 0 dX11_loose_22 rfl rfl ?_
  refine rx_getC C (k := 54) sm_0 fc_X11 (by decide) 36 rfl lk_X11_177 dX11_loose_23 ?_
  refine rx_bipush C dX11_loose_26 bp_26 ?_
  refine rx_iload_n C 1 dX11_loose_28 rfl rfl ?_
  refine rx_iconst C dX11_loose_29 ic_m1 ?_
  refine rx_icmp_ne C (tgt := 38) dX11_loose_30 (by decide) (fun _ => ?_) (fun _ => ?_)
  · refine rx_bipush C dX11_loose_33 bp_8 ?_
    refine rx_goto C (tgt := 39) dX11_loose_35 (by decide) ?_
    exact RX.loc (w_X11_loose_39 C x2 (8 : Int32) (26 : Int32) σ) [2] rfl
  · refine rx_iload_n C 1 dX11_loose_38 rfl rfl ?_
    exact RX.loc (w_X11_loose_39 C x2 x1 (26 : Int32) σ) [2] rfl
set_option maxRecDepth 100000 in
set_option maxHeartbeats 4000000 in
theorem w_X11_loose_e {α : Nat → Nat} {D : va_G} {cA : Nat → ClassId} {z : Cz} (C : CX shM α D cA z RX11 cX11_loose 3 (some .int) 2 43) (x1 : Int32) (x2 : Int32) (σ : St) : RX emI shM α D cA z 3 σ 0 [(0, .ref (α 0)), (1, .int x1), (2, .int x2)] [] (f_X11_loose x1 x2 σ) := by
  unfold f_X11_loose
  refine rx_iload_n C 2 dX11_loose_0 rfl rfl ?_
  refine rx_callSi C [.int x2] [] (m_X11_isLetterCode z.l C.inj x2 σ) ms_X11_isLetterCode lk_X11_464 rfl rfl (Nat.le_of_ble_eq_true rfl) ⟨Nat.le_of_ble_eq_true rfl, Nat.le_of_ble_eq_true rfl⟩ dX11_loose_1 (fun q3 => ?_)
  refine rx_if_eq C (tgt := 20) dX11_loose_4 (by decide) (fun _ => ?_) (fun _ => ?_)
  · exact RX.loc (w_X11_loose_20 C q3.2) [] rfl
  · refine rx_iload_n C 1 dX11_loose_7 rfl rfl ?_
    refine rx_iconst C dX11_loose_8 ic_m1 ?_
    refine rx_icmp_eq C (tgt := 22) dX11_loose_9 (by decide) (fun _ => ?_) (fun _ => ?_)
    · exact RX.loc (w_X11_loose_22 C x1 x2 q3.2) [0, 1, 2] rfl
    · refine rx_aload_n C 0 dX11_loose_12 rfl rfl ?_
      refine rx_iload_n C 1 dX11_loose_13 rfl rfl ?_
      refine rx_callVi C [.int x1] [] (m_X11_isPerson z.l C.inj x1 q3.2) mv_X11_isPerson lk_X11_483 sm_0 rfl rfl rfl (Nat.le_of_ble_eq_true rfl) ⟨Nat.le_of_ble_eq_true rfl, Nat.le_of_ble_eq_true rfl⟩ dX11_loose_14 (fun q4 => ?_)
      refine rx_if_ne C (tgt := 22) dX11_loose_17 (by decide) (fun _ => ?_) (fun _ => ?_)
      · exact RX.loc (w_X11_loose_20 C q4.2) [] rfl
      · exact RX.loc (w_X11_loose_22 C x1 x2 q4.2) [0, 1, 2] rfl
theorem m_X11_loose (l : Launch) {α : Nat → Nat} {D : va_G} {cA : Nat → ClassId} (hin : inj shM.length α) (x1 : Int32) (x2 : Int32) (σ : St) : CT shM l yX11_loose cX11_loose 3 (some .int) 2 43 emI α D cA [.ref (α 0), .int x1, .int x2] σ (f_X11_loose x1 x2 σ) := ct_of rfl (Nat.le_of_ble_eq_true rfl) hin (fun z _ C => w_X11_loose_e C x1 x2 σ)
set_option maxRecDepth 100000 in
set_option maxHeartbeats 4000000 in
theorem w_X11_coatsAll_4 {α : Nat → Nat} {D : va_G} {cA : Nat → ClassId} {z : Cz} (C : CX shM α D cA z RX11 cX11_coatsAll 3 (some .int) 4 90) : ∀ (n : Nat) (x1 : Int32) (x2 : Int32) (σ : St), RX emI shM α D cA z 3 σ 4 [(0, .ref (α 0)), (1, .int x1), (2, .int x2)] [] (f_X11_coatsAll_4 n x1 x2 σ) := by
  intro n
  induction n with
  | zero => intros; exact rx_none
  | succ n hk_4 =>
    intro x1 x2 σ
    rw [f_X11_coatsAll_4.eq_2]
    refine rx_iload_n C 2 dX11_coatsAll_4 rfl rfl ?_
    refine rx_aload_n C 0 dX11_coatsAll_5 rfl rfl ?_
    refine rx_getC C (k := 14) sm_0 fc_X11 (by decide) 3 rfl lk_X11_54 dX11_coatsAll_6 ?_
    refine rx_aload_n C 0 dX11_coatsAll_9 rfl rfl ?_
    refine rx_getI C (k := 12) sm_0 fc_X11 (by decide) rfl lk_X11_48 dX11_coatsAll_10 ?_
    refine rx_iald C (n := 2) sm_3 dX11_coatsAll_13 (fun _ => ?_)
    refine rx_icmp_ge C (tgt := 31) dX11_coatsAll_14 (by decide) (fun _ => ?_) (fun _ => ?_)
    · refine rx_iload_n C 1 dX11_coatsAll_31 rfl rfl ?_
      exact rx_iret C dX11_coatsAll_32
    · refine rx_iload_n C 1 dX11_coatsAll_17 rfl rfl ?_
      refine rx_aload_n C 0 dX11_coatsAll_18 rfl rfl ?_
      refine rx_iload_n C 2 dX11_coatsAll_19 rfl rfl ?_
      refine rx_callVi C [.int x2] [.int x1] (m_X11_loadOf z.l C.inj x2 σ) mv_X11_loadOf lk_X11_489 sm_0 rfl rfl rfl (Nat.le_of_ble_eq_true rfl) ⟨Nat.le_of_ble_eq_true rfl, Nat.le_of_ble_eq_true rfl⟩ dX11_coatsAll_20 (fun q3 => ?_)
      refine rx_iadd C dX11_coatsAll_23 ?_
      refine rx_lti (fun w4 => ?_)
      refine rx_istore_n C [(1, .int w4), (0, .ref (α 0)), (2, .int x2)] dX11_coatsAll_24 rfl (by decide) rfl ?_
      refine rx_iinc C (k0 := 2) (v := x2 + (1 : Int32)) [(2, .int (x2 + (1 : Int32))), (1, .int w4), (0, .ref (α 0))] dX11_coatsAll_25 rfl (congrArg _ ic_1) (by decide) rfl ?_
      refine rx_goto C (tgt := 4) dX11_coatsAll_28 (by decide) ?_
      exact RX.loc (hk_4 w4 (x2 + (1 : Int32)) q3.2) [2, 1, 0] rfl
set_option maxRecDepth 100000 in
set_option maxHeartbeats 4000000 in
theorem w_X11_coatsAll_e {α : Nat → Nat} {D : va_G} {cA : Nat → ClassId} {z : Cz} (C : CX shM α D cA z RX11 cX11_coatsAll 3 (some .int) 4 90) (σ : St) : RX emI shM α D cA z 3 σ 0 [(0, .ref (α 0))] [] (f_X11_coatsAll σ) := by
  unfold f_X11_coatsAll
  refine rx_iconst C dX11_coatsAll_0 ic_0 ?_
  refine rx_istore_n C [(1, .int (0 : Int32)), (0, .ref (α 0))] dX11_coatsAll_1 rfl (by decide) rfl ?_
  refine rx_iconst C dX11_coatsAll_2 ic_0 ?_
  refine rx_istore_n C [(2, .int (0 : Int32)), (1, .int (0 : Int32)), (0, .ref (α 0))] dX11_coatsAll_3 rfl (by decide) rfl ?_
  exact RX.loc (w_X11_coatsAll_4 C FU (0 : Int32) (0 : Int32) σ) [2, 1, 0] rfl
theorem m_X11_coatsAll (l : Launch) {α : Nat → Nat} {D : va_G} {cA : Nat → ClassId} (hin : inj shM.length α) (σ : St) : CT shM l yX11_coatsAll cX11_coatsAll 3 (some .int) 4 90 emI α D cA [.ref (α 0)] σ (f_X11_coatsAll σ) := ct_of rfl (Nat.le_of_ble_eq_true rfl) hin (fun z _ C => w_X11_coatsAll_e C σ)
set_option maxRecDepth 100000 in
set_option maxHeartbeats 4000000 in
theorem w_X11_bulletsAll_4 {α : Nat → Nat} {D : va_G} {cA : Nat → ClassId} {z : Cz} (C : CX shM α D cA z RX11 cX11_bulletsAll 3 (some .int) 0 0) : ∀ (n : Nat) (x1 : Int32) (x2 : Int32) (σ : St), RX emI shM α D cA z 3 σ 4 [(0, .ref (α 0)), (1, .int x1), (2, .int x2)] [] (f_X11_bulletsAll_4 n x1 x2 σ) := by
  intro n
  induction n with
  | zero => intros; exact rx_none
  | succ n hk_4 =>
    intro x1 x2 σ
    rw [f_X11_bulletsAll_4.eq_2]
    refine rx_iload_n C 2 dX11_bulletsAll_4 rfl rfl ?_
    refine rx_aload_n C 0 dX11_bulletsAll_5 rfl rfl ?_
    refine rx_getI C (k := 60) sm_0 fc_X11 (by decide) rfl lk_X11_195 dX11_bulletsAll_6 ?_
    refine rx_icmp_ge C (tgt := 27) dX11_bulletsAll_9 (by decide) (fun _ => ?_) (fun _ => ?_)
    · refine rx_iload_n C 1 dX11_bulletsAll_27 rfl rfl ?_
      exact rx_iret C dX11_bulletsAll_28
    · refine rx_iload_n C 1 dX11_bulletsAll_12 rfl rfl ?_
      refine rx_aload_n C 0 dX11_bulletsAll_13 rfl rfl ?_
      refine rx_getC C (k := 61) sm_0 fc_X11 (by decide) 40 rfl lk_X11_198 dX11_bulletsAll_14 ?_
      refine rx_iload_n C 2 dX11_bulletsAll_17 rfl rfl ?_
      refine rx_iald C (n := 30) sm_40 dX11_bulletsAll_18 (fun _ => ?_)
      refine rx_iadd C dX11_bulletsAll_19 ?_
      refine rx_lti (fun w2 => ?_)
      refine rx_istore_n C [(1, .int w2), (0, .ref (α 0)), (2, .int x2)] dX11_bulletsAll_20 rfl (by decide) rfl ?_
      refine rx_iinc C (k0 := 2) (v := x2 + (1 : Int32)) [(2, .int (x2 + (1 : Int32))), (1, .int w2), (0, .ref (α 0))] dX11_bulletsAll_21 rfl (congrArg _ ic_1) (by decide) rfl ?_
      refine rx_goto C (tgt := 4) dX11_bulletsAll_24 (by decide) ?_
      exact RX.loc (hk_4 w2 (x2 + (1 : Int32)) σ) [2, 1, 0] rfl
set_option maxRecDepth 100000 in
set_option maxHeartbeats 4000000 in
theorem w_X11_bulletsAll_e {α : Nat → Nat} {D : va_G} {cA : Nat → ClassId} {z : Cz} (C : CX shM α D cA z RX11 cX11_bulletsAll 3 (some .int) 0 0) (σ : St) : RX emI shM α D cA z 3 σ 0 [(0, .ref (α 0))] [] (f_X11_bulletsAll σ) := by
  unfold f_X11_bulletsAll
  refine rx_iconst C dX11_bulletsAll_0 ic_0 ?_
  refine rx_istore_n C [(1, .int (0 : Int32)), (0, .ref (α 0))] dX11_bulletsAll_1 rfl (by decide) rfl ?_
  refine rx_iconst C dX11_bulletsAll_2 ic_0 ?_
  refine rx_istore_n C [(2, .int (0 : Int32)), (1, .int (0 : Int32)), (0, .ref (α 0))] dX11_bulletsAll_3 rfl (by decide) rfl ?_
  exact RX.loc (w_X11_bulletsAll_4 C FU (0 : Int32) (0 : Int32) σ) [2, 1, 0] rfl
theorem m_X11_bulletsAll (l : Launch) {α : Nat → Nat} {D : va_G} {cA : Nat → ClassId} (hin : inj shM.length α) (σ : St) : CT shM l yX11_bulletsAll cX11_bulletsAll 3 (some .int) 0 0 emI α D cA [.ref (α 0)] σ (f_X11_bulletsAll σ) := ct_of rfl (Nat.le_of_ble_eq_true rfl) hin (fun z _ C => w_X11_bulletsAll_e C σ)
set_option maxRecDepth 100000 in
set_option maxHeartbeats 4000000 in
theorem w_X11_lead_e {α : Nat → Nat} {D : va_G} {cA : Nat → ClassId} {z : Cz} (C : CX shM α D cA z RX11 cX11_lead 2 (some .int) 5 112) (x1 : Int32) (σ : St) : RX emI shM α D cA z 2 σ 0 [(0, .ref (α 0)), (1, .int x1)] [] (f_X11_lead x1 σ) := by
  unfold f_X11_lead
  refine rx_iload_n C 1 dX11_lead_0 rfl rfl ?_
  refine rx_if (fun hs12 => ?_) (fun hs12 => ?_)
  · refine rx_tableIn C (tgt := 36) (0 : Int32) hs12 dX11_lead_1 (by decide) (by decide) rfl (by decide) ?_
    refine rx_aload_n C 0 dX11_lead_36 rfl rfl ?_
    refine rx_callVi C [] [] (m_X11_coatsAll z.l C.inj σ) mv_X11_coatsAll lk_X11_501 sm_0 rfl rfl rfl (Nat.le_of_ble_eq_true rfl) ⟨Nat.le_of_ble_eq_true rfl, Nat.le_of_ble_eq_true rfl⟩ dX11_lead_37 (fun q13 => ?_)
    exact rx_iret C dX11_lead_40
  refine rx_if (fun hs14 => ?_) (fun hs14 => ?_)
  · refine rx_tableIn C (tgt := 41) (1 : Int32) hs14 dX11_lead_1 (by decide) (by decide) rfl (by decide) ?_
    refine rx_aload_n C 0 dX11_lead_41 rfl rfl ?_
    refine rx_bipush C dX11_lead_42 bp_8 ?_
    refine rx_callVi C [.int (8 : Int32)] [] (m_X11_looseOunces z.l C.inj (8 : Int32) σ) mv_X11_looseOunces lk_X11_446 sm_0 rfl rfl rfl (Nat.le_of_ble_eq_true rfl) ⟨Nat.le_of_ble_eq_true rfl, Nat.le_of_ble_eq_true rfl⟩ dX11_lead_44 (fun q15 => ?_)
    exact rx_iret C dX11_lead_47
  refine rx_if (fun hs16 => ?_) (fun hs16 => ?_)
  · refine rx_tableIn C (tgt := 48) (2 : Int32) hs16 dX11_lead_1 (by decide) (by decide) rfl (by decide) ?_
    refine rx_aload_n C 0 dX11_lead_48 rfl rfl ?_
    refine rx_getI C (k := 55) sm_0 fc_X11 (by decide) rfl lk_X11_180 dX11_lead_49 ?_
    exact rx_iret C dX11_lead_52
  refine rx_if (fun hs17 => ?_) (fun hs17 => ?_)
  · refine rx_tableIn C (tgt := 53) (3 : Int32) hs17 dX11_lead_1 (by decide) (by decide) rfl (by decide) ?_
    refine rx_aload_n C 0 dX11_lead_53 rfl rfl ?_
    refine rx_callVi C [] [] (m_X11_bulletsAll z.l C.inj σ) mv_X11_bulletsAll lk_X11_504 sm_0 rfl rfl rfl (Nat.le_of_ble_eq_true rfl) ⟨Nat.le_of_ble_eq_true rfl, Nat.le_of_ble_eq_true rfl⟩ dX11_lead_54 (fun q18 => ?_)
    exact rx_iret C dX11_lead_57
  refine rx_if (fun hs19 => ?_) (fun hs19 => ?_)
  · refine rx_tableIn C (tgt := 58) (4 : Int32) hs19 dX11_lead_1 (by decide) (by decide) rfl (by decide) ?_
    refine rx_aload_n C 0 dX11_lead_58 rfl rfl ?_
    refine rx_callVi C [] [] (m_X11_coatsAll z.l C.inj σ) mv_X11_coatsAll lk_X11_501 sm_0 rfl rfl rfl (Nat.le_of_ble_eq_true rfl) ⟨Nat.le_of_ble_eq_true rfl, Nat.le_of_ble_eq_true rfl⟩ dX11_lead_59 (fun q20 => ?_)
    refine rx_aload_n C 0 dX11_lead_62 rfl rfl ?_
    refine rx_bipush C dX11_lead_63 bp_8 ?_
    refine rx_callVi C [.int (8 : Int32)] [.int q20.1] (m_X11_looseOunces z.l C.inj (8 : Int32) q20.2) mv_X11_looseOunces lk_X11_446 sm_0 rfl rfl rfl (Nat.le_of_ble_eq_true rfl) ⟨Nat.le_of_ble_eq_true rfl, Nat.le_of_ble_eq_true rfl⟩ dX11_lead_65 (fun q21 => ?_)
    refine rx_iadd C dX11_lead_68 ?_
    refine rx_aload_n C 0 dX11_lead_69 rfl rfl ?_
    refine rx_getI C (k := 55) sm_0 fc_X11 (by decide) rfl lk_X11_180 dX11_lead_70 ?_
    refine rx_iadd C dX11_lead_73 ?_
    refine rx_aload_n C 0 dX11_lead_74 rfl rfl ?_
    refine rx_callVi C [] [.int ((q20.1 + q21.1) + (gI q21.2 0 55))] (m_X11_bulletsAll z.l C.inj q21.2) mv_X11_bulletsAll lk_X11_504 sm_0 rfl rfl rfl (Nat.le_of_ble_eq_true rfl) ⟨Nat.le_of_ble_eq_true rfl, Nat.le_of_ble_eq_true rfl⟩ dX11_lead_75 (fun q22 => ?_)
    refine rx_iadd C dX11_lead_78 ?_
    exact rx_iret C dX11_lead_79
  refine rx_tableOut C (tgt := 80) dX11_lead_1 (by have := lv_neT (a := 0) hs12 (by decide); have := lv_neT (a := 1) hs14 (by decide); have := lv_neT (a := 2) hs16 (by decide); have := lv_neT (a := 3) hs17 (by decide); have := lv_neT (a := 4) hs19 (by decide); omega) (by decide) ?_
  refine rx_iconst C dX11_lead_80 ic_m1 ?_
  exact rx_iret C dX11_lead_81
theorem m_X11_lead (l : Launch) {α : Nat → Nat} {D : va_G} {cA : Nat → ClassId} (hin : inj shM.length α) (x1 : Int32) (σ : St) : CT shM l yX11_lead cX11_lead 2 (some .int) 5 112 emI α D cA [.ref (α 0), .int x1] σ (f_X11_lead x1 σ) := ct_of rfl (Nat.le_of_ble_eq_true rfl) hin (fun z _ C => w_X11_lead_e C x1 σ)
set_option maxRecDepth 100000 in
set_option maxHeartbeats 4000000 in
theorem w_X11_notes_52 {α : Nat → Nat} {D : va_G} {cA : Nat → ClassId} {z : Cz} (C : CX shM α D cA z RX11 cX11_notes 6 none 0 0) (x1 : Int32) (x2 : Int32) (x3 : Int32) (x4 : Int32) (σ : St) : RX emV shM α D cA z 6 σ 52 [(0, .ref (α 0)), (1, .int x1), (2, .int x2), (3, .int x3), (4, .int x4)] [] (f_X11_notes_52 x1 x2 x3 x4 σ) := by
  unfold f_X11_notes_52
  refine rx_iconst C dX11_notes_52 ic_5 ?_
  refine rx_aload_n C 0 dX11_notes_53 rfl rfl ?_
  refine rx_getI C (k := 62) sm_0 fc_X11 (by decide) rfl lk_X11_201 dX11_notes_54 ?_
  refine rx_imul C dX11_notes_57 ?_
  refine rx_lti (fun w11 => ?_)
  refine rx_istore C [(5, .int w11), (0, .ref (α 0)), (1, .int x1), (2, .int x2), (3, .int x3), (4, .int x4)] dX11_notes_58 (by decide) rfl ?_
  refine rx_aload_n C 1 dX11_notes_60 rfl rfl ?_
  refine rx_getC C (k := 63) sm_0 fc_X11 (by decide) 41 rfl lk_X11_204 dX11_notes_61 ?_
  refine rx_iload C 0 dX11_notes_64 rfl ?_
  refine rx_aload_n C 1 dX11_notes_66 rfl rfl ?_
  refine rx_getI C (k := 52) sm_0 fc_X11 (by decide) rfl lk_X11_171 dX11_notes_67 ?_
  refine rx_iast C (n := 300) sm_41 dX11_notes_70 (fun _ => ?_)
  refine rx_lts (fun σ12 => ?_)
  refine rx_aload_n C 1 dX11_notes_71 rfl rfl ?_
  refine rx_getC C (k := 63) sm_0 fc_X11 (by decide) 41 rfl lk_X11_204 dX11_notes_72 ?_
  refine rx_iload C 0 dX11_notes_75 rfl ?_
  refine rx_iconst C dX11_notes_77 ic_1 ?_
  refine rx_iadd C dX11_notes_78 ?_
  refine rx_iload_n C 2 dX11_notes_79 rfl rfl ?_
  refine rx_iast C (n := 300) sm_41 dX11_notes_80 (fun _ => ?_)
  refine rx_lts (fun σ13 => ?_)
  refine rx_aload_n C 1 dX11_notes_81 rfl rfl ?_
  refine rx_getC C (k := 63) sm_0 fc_X11 (by decide) 41 rfl lk_X11_204 dX11_notes_82 ?_
  refine rx_iload C 0 dX11_notes_85 rfl ?_
  refine rx_iconst C dX11_notes_87 ic_2 ?_
  refine rx_iadd C dX11_notes_88 ?_
  refine rx_iload_n C 3 dX11_notes_89 rfl rfl ?_
  refine rx_iast C (n := 300) sm_41 dX11_notes_90 (fun _ => ?_)
  refine rx_lts (fun σ14 => ?_)
  refine rx_aload_n C 1 dX11_notes_91 rfl rfl ?_
  refine rx_getC C (k := 63) sm_0 fc_X11 (by decide) 41 rfl lk_X11_204 dX11_notes_92 ?_
  refine rx_iload C 0 dX11_notes_95 rfl ?_
  refine rx_iconst C dX11_notes_97 ic_3 ?_
  refine rx_iadd C dX11_notes_98 ?_
  refine rx_iload_n C 4 dX11_notes_99 rfl rfl ?_
  refine rx_iast C (n := 300) sm_41 dX11_notes_100 (fun _ => ?_)
  refine rx_lts (fun σ15 => ?_)
  refine rx_aload_n C 1 dX11_notes_101 rfl rfl ?_
  refine rx_getC C (k := 63) sm_0 fc_X11 (by decide) 41 rfl lk_X11_204 dX11_notes_102 ?_
  refine rx_iload C 0 dX11_notes_105 rfl ?_
  refine rx_iconst C dX11_notes_107 ic_4 ?_
  refine rx_iadd C dX11_notes_108 ?_
  refine rx_iload C 5 dX11_notes_109 rfl ?_
  refine rx_iast C (n := 300) sm_41 dX11_notes_111 (fun _ => ?_)
  refine rx_lts (fun σ16 => ?_)
  refine rx_aload_n C 1 dX11_notes_112 rfl rfl ?_
  refine rx_dup C dX11_notes_113 rfl ?_
  refine rx_getI C (k := 62) sm_0 fc_X11 (by decide) rfl lk_X11_201 dX11_notes_114 ?_
  refine rx_iconst C dX11_notes_117 ic_1 ?_
  refine rx_iadd C dX11_notes_118 ?_
  refine rx_putI C (k := 62) sm_0 fc_X11 (by decide) rfl lk_X11_201 rfl ⟨rfl, rfl⟩ dX11_notes_119 ?_
  refine rx_lts (fun σ17 => ?_)
  exact rx_vret C dX11_notes_122
set_option maxRecDepth 100000 in
set_option maxHeartbeats 4000000 in
theorem w_X11_notes_12 {α : Nat → Nat} {D : va_G} {cA : Nat → ClassId} {z : Cz} (C : CX shM α D cA z RX11 cX11_notes 6 none 0 0) : ∀ (n : Nat) (x1 : Int32) (x2 : Int32) (x3 : Int32) (x4 : Int32) (x5 : Int32) (σ : St), RX emV shM α D cA z 6 σ 12 [(0, .ref (α 0)), (1, .int x1), (2, .int x2), (3, .int x3), (4, .int x4), (5, .int x5)] [] (f_X11_notes_12 n x1 x2 x3 x4 x5 σ) := by
  intro n
  induction n with
  | zero => intros; exact rx_none
  | succ n hk_12 =>
    intro x1 x2 x3 x4 x5 σ
    rw [f_X11_notes_12.eq_2]
    refine rx_iload C 5 dX11_notes_12 rfl ?_
    refine rx_sipush C dX11_notes_14 sp_295 ?_
    refine rx_icmp_ge C (tgt := 42) dX11_notes_17 (by decide) (fun _ => ?_) (fun _ => ?_)
    · refine rx_aload_n C 0 dX11_notes_42 rfl rfl ?_
      refine rx_dup C dX11_notes_43 rfl ?_
      refine rx_getI C (k := 62) sm_0 fc_X11 (by decide) rfl lk_X11_201 dX11_notes_44 ?_
      refine rx_iconst C dX11_notes_47 ic_1 ?_
      refine rx_isub C dX11_notes_48 ?_
      refine rx_putI C (k := 62) sm_0 fc_X11 (by decide) rfl lk_X11_201 rfl ⟨rfl, rfl⟩ dX11_notes_49 ?_
      refine rx_lts (fun σ10 => ?_)
      exact RX.loc (w_X11_notes_52 C x1 x2 x3 x4 σ10) [0, 1, 2, 3, 4] rfl
    · refine rx_aload_n C 0 dX11_notes_20 rfl rfl ?_
      refine rx_getC C (k := 63) sm_0 fc_X11 (by decide) 41 rfl lk_X11_204 dX11_notes_21 ?_
      refine rx_iload C 5 dX11_notes_24 rfl ?_
      refine rx_aload_n C 0 dX11_notes_26 rfl rfl ?_
      refine rx_getC C (k := 63) sm_0 fc_X11 (by decide) 41 rfl lk_X11_204 dX11_notes_27 ?_
      refine rx_iload C 5 dX11_notes_30 rfl ?_
      refine rx_iconst C dX11_notes_32 ic_5 ?_
      refine rx_iadd C dX11_notes_33 ?_
      refine rx_iald C (n := 300) sm_41 dX11_notes_34 (fun _ => ?_)
      refine rx_iast C (n := 300) sm_41 dX11_notes_35 (fun _ => ?_)
      refine rx_lts (fun σ18 => ?_)
      refine rx_iinc C (k0 := 5) (v := x5 + (1 : Int32)) [(5, .int (x5 + (1 : Int32))), (0, .ref (α 0)), (1, .int x1), (2, .int x2), (3, .int x3), (4, .int x4)] dX11_notes_36 rfl (congrArg _ ic_1) (by decide) rfl ?_
      refine rx_goto C (tgt := 12) dX11_notes_39 (by decide) ?_
      exact RX.loc (hk_12 x1 x2 x3 x4 (x5 + (1 : Int32)) σ18) [1, 2, 3, 4, 5, 0] rfl
set_option maxRecDepth 100000 in
set_option maxHeartbeats 4000000 in
theorem w_X11_notes_e {α : Nat → Nat} {D : va_G} {cA : Nat → ClassId} {z : Cz} (C : CX shM α D cA z RX11 cX11_notes 6 none 0 0) (x1 : Int32) (x2 : Int32) (x3 : Int32) (x4 : Int32) (σ : St) : RX emV shM α D cA z 6 σ 0 [(0, .ref (α 0)), (1, .int x1), (2, .int x2), (3, .int x3), (4, .int x4)] [] (f_X11_notes x1 x2 x3 x4 σ) := by
  unfold f_X11_notes
  refine rx_aload_n C 0 dX11_notes_0 rfl rfl ?_
  refine rx_getI C (k := 62) sm_0 fc_X11 (by decide) rfl lk_X11_201 dX11_notes_1 ?_
  refine rx_bipush C dX11_notes_4 bp_60 ?_
  refine rx_icmp_ne C (tgt := 52) dX11_notes_6 (by decide) (fun _ => ?_) (fun _ => ?_)
  · refine rx_iconst C dX11_notes_9 ic_0 ?_
    refine rx_istore C [(5, .int (0 : Int32)), (0, .ref (α 0)), (1, .int x1), (2, .int x2), (3, .int x3), (4, .int x4)] dX11_notes_10 (by decide) rfl ?_
    exact RX.loc (w_X11_notes_12 C FU x1 x2 x3 x4 (0 : Int32) σ) [1, 2, 3, 4, 5, 0] rfl
  · exact RX.loc (w_X11_notes_52 C x1 x2 x3 x4 σ) [0, 1, 2, 3, 4] rfl
theorem m_X11_notes (l : Launch) {α : Nat → Nat} {D : va_G} {cA : Nat → ClassId} (hin : inj shM.length α) (x1 : Int32) (x2 : Int32) (x3 : Int32) (x4 : Int32) (σ : St) : CT shM l yX11_notes cX11_notes 6 none 0 0 emV α D cA [.ref (α 0), .int x1, .int x2, .int x3, .int x4] σ (f_X11_notes x1 x2 x3 x4 σ) := ct_of rfl (Nat.le_of_ble_eq_true rfl) hin (fun z _ C => w_X11_notes_e C x1 x2 x3 x4 σ)
set_option maxRecDepth 100000 in
set_option maxHeartbeats 4000000 in
theorem w_X11_comes_e {α : Nat → Nat} {D : va_G} {cA : Nat → ClassId} {z : Cz} (C : CX shM α D cA z RX11 cX11_comes 3 none 0 0) (x1 : Int32) (x2 : Int32) (σ : St) : RX emV shM α D cA z 3 σ 0 [(0, .ref (α 0)), (1, .int x1), (2, .int x2)] [] (f_X11_comes x1 x2 σ) := by
  unfold f_X11_comes
  refine rx_aload_n C 0 dX11_comes_0 rfl rfl ?_
  refine rx_getC C (k := 53) sm_0 fc_X11 (by decide) 35 rfl lk_X11_174 dX11_comes_1 ?_
  refine rx_iload_n C 1 dX11_comes_4 rfl rfl ?_
  refine rx_dup2 C dX11_comes_5 rfl rfl ?_
  refine rx_iald C (n := 8) sm_35 dX11_comes_6 (fun _ => ?_)
  refine rx_iconst C dX11_comes_7 ic_1 ?_
  refine rx_iload_n C 2 dX11_comes_8 rfl rfl ?_
  refine rx_ishl C dX11_comes_9 ?_
  refine rx_ior C dX11_comes_10 ?_
  refine rx_iast C (n := 8) sm_35 dX11_comes_11 (fun _ => ?_)
  refine rx_lts (fun σ3 => ?_)
  refine rx_aload_n C 0 dX11_comes_12 rfl rfl ?_
  refine rx_getC C (k := 66) sm_0 fc_X11 (by decide) 43 rfl lk_X11_213 dX11_comes_13 ?_
  refine rx_bipush C dX11_comes_16 bp_12 ?_
  refine rx_iload_n C 1 dX11_comes_18 rfl rfl ?_
  refine rx_imul C dX11_comes_19 ?_
  refine rx_iload_n C 2 dX11_comes_20 rfl rfl ?_
  refine rx_iadd C dX11_comes_21 ?_
  refine rx_aload_n C 0 dX11_comes_22 rfl rfl ?_
  refine rx_getI C (k := 52) sm_0 fc_X11 (by decide) rfl lk_X11_171 dX11_comes_23 ?_
  refine rx_iast C (n := 96) sm_43 dX11_comes_26 (fun _ => ?_)
  refine rx_lts (fun σ4 => ?_)
  exact rx_vret C dX11_comes_27
theorem m_X11_comes (l : Launch) {α : Nat → Nat} {D : va_G} {cA : Nat → ClassId} (hin : inj shM.length α) (x1 : Int32) (x2 : Int32) (σ : St) : CT shM l yX11_comes cX11_comes 3 none 0 0 emV α D cA [.ref (α 0), .int x1, .int x2] σ (f_X11_comes x1 x2 σ) := ct_of rfl (Nat.le_of_ble_eq_true rfl) hin (fun z _ C => w_X11_comes_e C x1 x2 σ)
set_option maxRecDepth 100000 in
set_option maxHeartbeats 4000000 in
theorem w_X11_goes_62 {α : Nat → Nat} {D : va_G} {cA : Nat → ClassId} {z : Cz} (C : CX shM α D cA z RX11 cX11_goes 4 none 0 0) (x1 : Int32) (x2 : Int32) (σ : St) : RX emV shM α D cA z 4 σ 62 [(0, .ref (α 0)), (1, .int x1), (2, .int x2)] [] (f_X11_goes_62 x1 x2 σ) := by
  unfold f_X11_goes_62
  refine rx_iconst C dX11_goes_62 ic_4 ?_
  refine rx_aload_n C 0 dX11_goes_63 rfl rfl ?_
  refine rx_getI C (k := 64) sm_0 fc_X11 (by decide) rfl lk_X11_207 dX11_goes_64 ?_
  refine rx_imul C dX11_goes_67 ?_
  refine rx_lti (fun w12 => ?_)
  refine rx_istore_n C [(3, .int w12), (0, .ref (α 0)), (1, .int x1), (2, .int x2)] dX11_goes_68 rfl (by decide) rfl ?_
  refine rx_aload_n C 1 dX11_goes_69 rfl rfl ?_
  refine rx_getC C (k := 65) sm_0 fc_X11 (by decide) 42 rfl lk_X11_210 dX11_goes_70 ?_
  refine rx_iload_n C 0 dX11_goes_73 rfl rfl ?_
  refine rx_iload_n C 2 dX11_goes_74 rfl rfl ?_
  refine rx_iast C (n := 320) sm_42 dX11_goes_75 (fun _ => ?_)
  refine rx_lts (fun σ13 => ?_)
  refine rx_aload_n C 1 dX11_goes_76 rfl rfl ?_
  refine rx_getC C (k := 65) sm_0 fc_X11 (by decide) 42 rfl lk_X11_210 dX11_goes_77 ?_
  refine rx_iload_n C 0 dX11_goes_80 rfl rfl ?_
  refine rx_iconst C dX11_goes_81 ic_1 ?_
  refine rx_iadd C dX11_goes_82 ?_
  refine rx_iload_n C 3 dX11_goes_83 rfl rfl ?_
  refine rx_iast C (n := 320) sm_42 dX11_goes_84 (fun _ => ?_)
  refine rx_lts (fun σ14 => ?_)
  refine rx_aload_n C 1 dX11_goes_85 rfl rfl ?_
  refine rx_getC C (k := 65) sm_0 fc_X11 (by decide) 42 rfl lk_X11_210 dX11_goes_86 ?_
  refine rx_iload_n C 0 dX11_goes_89 rfl rfl ?_
  refine rx_iconst C dX11_goes_90 ic_2 ?_
  refine rx_iadd C dX11_goes_91 ?_
  refine rx_aload_n C 1 dX11_goes_92 rfl rfl ?_
  refine rx_getC C (k := 66) sm_0 fc_X11 (by decide) 43 rfl lk_X11_213 dX11_goes_93 ?_
  refine rx_bipush C dX11_goes_96 bp_12 ?_
  refine rx_iload_n C 2 dX11_goes_98 rfl rfl ?_
  refine rx_imul C dX11_goes_99 ?_
  refine rx_iload_n C 3 dX11_goes_100 rfl rfl ?_
  refine rx_iadd C dX11_goes_101 ?_
  refine rx_iald C (n := 96) sm_43 dX11_goes_102 (fun _ => ?_)
  refine rx_iast C (n := 320) sm_42 dX11_goes_103 (fun _ => ?_)
  refine rx_lts (fun σ15 => ?_)
  refine rx_aload_n C 1 dX11_goes_104 rfl rfl ?_
  refine rx_getC C (k := 65) sm_0 fc_X11 (by decide) 42 rfl lk_X11_210 dX11_goes_105 ?_
  refine rx_iload_n C 0 dX11_goes_108 rfl rfl ?_
  refine rx_iconst C dX11_goes_109 ic_3 ?_
  refine rx_iadd C dX11_goes_110 ?_
  refine rx_aload_n C 1 dX11_goes_111 rfl rfl ?_
  refine rx_getI C (k := 52) sm_0 fc_X11 (by decide) rfl lk_X11_171 dX11_goes_112 ?_
  refine rx_iast C (n := 320) sm_42 dX11_goes_115 (fun _ => ?_)
  refine rx_lts (fun σ16 => ?_)
  refine rx_aload_n C 1 dX11_goes_116 rfl rfl ?_
  refine rx_dup C dX11_goes_117 rfl ?_
  refine rx_getI C (k := 64) sm_0 fc_X11 (by decide) rfl lk_X11_207 dX11_goes_118 ?_
  refine rx_iconst C dX11_goes_121 ic_1 ?_
  refine rx_iadd C dX11_goes_122 ?_
  refine rx_putI C (k := 64) sm_0 fc_X11 (by decide) rfl lk_X11_207 rfl ⟨rfl, rfl⟩ dX11_goes_123 ?_
  refine rx_lts (fun σ17 => ?_)
  exact rx_vret C dX11_goes_126
set_option maxRecDepth 100000 in
set_option maxHeartbeats 4000000 in
theorem w_X11_goes_25 {α : Nat → Nat} {D : va_G} {cA : Nat → ClassId} {z : Cz} (C : CX shM α D cA z RX11 cX11_goes 4 none 0 0) : ∀ (n : Nat) (x1 : Int32) (x2 : Int32) (x3 : Int32) (σ : St), RX emV shM α D cA z 4 σ 25 [(0, .ref (α 0)), (1, .int x1), (2, .int x2), (3, .int x3)] [] (f_X11_goes_25 n x1 x2 x3 σ) := by
  intro n
  induction n with
  | zero => intros; exact rx_none
  | succ n hk_25 =>
    intro x1 x2 x3 σ
    rw [f_X11_goes_25.eq_2]
    refine rx_iload_n C 3 dX11_goes_25 rfl rfl ?_
    refine rx_sipush C dX11_goes_26 sp_316 ?_
    refine rx_icmp_ge C (tgt := 52) dX11_goes_29 (by decide) (fun _ => ?_) (fun _ => ?_)
    · refine rx_aload_n C 0 dX11_goes_52 rfl rfl ?_
      refine rx_dup C dX11_goes_53 rfl ?_
      refine rx_getI C (k := 64) sm_0 fc_X11 (by decide) rfl lk_X11_207 dX11_goes_54 ?_
      refine rx_iconst C dX11_goes_57 ic_1 ?_
      refine rx_isub C dX11_goes_58 ?_
      refine rx_putI C (k := 64) sm_0 fc_X11 (by decide) rfl lk_X11_207 rfl ⟨rfl, rfl⟩ dX11_goes_59 ?_
      refine rx_lts (fun σ11 => ?_)
      exact RX.loc (w_X11_goes_62 C x1 x2 σ11) [0, 1, 2] rfl
    · refine rx_aload_n C 0 dX11_goes_32 rfl rfl ?_
      refine rx_getC C (k := 65) sm_0 fc_X11 (by decide) 42 rfl lk_X11_210 dX11_goes_33 ?_
      refine rx_iload_n C 3 dX11_goes_36 rfl rfl ?_
      refine rx_aload_n C 0 dX11_goes_37 rfl rfl ?_
      refine rx_getC C (k := 65) sm_0 fc_X11 (by decide) 42 rfl lk_X11_210 dX11_goes_38 ?_
      refine rx_iload_n C 3 dX11_goes_41 rfl rfl ?_
      refine rx_iconst C dX11_goes_42 ic_4 ?_
      refine rx_iadd C dX11_goes_43 ?_
      refine rx_iald C (n := 320) sm_42 dX11_goes_44 (fun _ => ?_)
      refine rx_iast C (n := 320) sm_42 dX11_goes_45 (fun _ => ?_)
      refine rx_lts (fun σ18 => ?_)
      refine rx_iinc C (k0 := 3) (v := x3 + (1 : Int32)) [(3, .int (x3 + (1 : Int32))), (0, .ref (α 0)), (1, .int x1), (2, .int x2)] dX11_goes_46 rfl (congrArg _ ic_1) (by decide) rfl ?_
      refine rx_goto C (tgt := 25) dX11_goes_49 (by decide) ?_
      exact RX.loc (hk_25 x1 x2 (x3 + (1 : Int32)) σ18) [1, 2, 3, 0] rfl
set_option maxRecDepth 100000 in
set_option maxHeartbeats 4000000 in
theorem w_X11_goes_e {α : Nat → Nat} {D : va_G} {cA : Nat → ClassId} {z : Cz} (C : CX shM α D cA z RX11 cX11_goes 4 none 0 0) (x1 : Int32) (x2 : Int32) (σ : St) : RX emV shM α D cA z 4 σ 0 [(0, .ref (α 0)), (1, .int x1), (2, .int x2)] [] (f_X11_goes x1 x2 σ) := by
  unfold f_X11_goes
  refine rx_aload_n C 0 dX11_goes_0 rfl rfl ?_
  refine rx_getC C (k := 53) sm_0 fc_X11 (by decide) 35 rfl lk_X11_174 dX11_goes_1 ?_
  refine rx_iload_n C 1 dX11_goes_4 rfl rfl ?_
  refine rx_dup2 C dX11_goes_5 rfl rfl ?_
  refine rx_iald C (n := 8) sm_35 dX11_goes_6 (fun _ => ?_)
  refine rx_iconst C dX11_goes_7 ic_1 ?_
  refine rx_iload_n C 2 dX11_goes_8 rfl rfl ?_
  refine rx_ishl C dX11_goes_9 ?_
  refine rx_iconst C dX11_goes_10 ic_m1 ?_
  refine rx_ixor C dX11_goes_11 ?_
  refine rx_iand C dX11_goes_12 ?_
  refine rx_iast C (n := 8) sm_35 dX11_goes_13 (fun _ => ?_)
  refine rx_lts (fun σ10 => ?_)
  refine rx_aload_n C 0 dX11_goes_14 rfl rfl ?_
  refine rx_getI C (k := 64) sm_0 fc_X11 (by decide) rfl lk_X11_207 dX11_goes_15 ?_
  refine rx_bipush C dX11_goes_18 bp_80 ?_
  refine rx_icmp_ne C (tgt := 62) dX11_goes_20 (by decide) (fun _ => ?_) (fun _ => ?_)
  · refine rx_iconst C dX11_goes_23 ic_0 ?_
    refine rx_istore_n C [(3, .int (0 : Int32)), (0, .ref (α 0)), (1, .int x1), (2, .int x2)] dX11_goes_24 rfl (by decide) rfl ?_
    exact RX.loc (w_X11_goes_25 C FU x1 x2 (0 : Int32) σ10) [1, 2, 3, 0] rfl
  · exact RX.loc (w_X11_goes_62 C x1 x2 σ10) [0, 1, 2] rfl
theorem m_X11_goes (l : Launch) {α : Nat → Nat} {D : va_G} {cA : Nat → ClassId} (hin : inj shM.length α) (x1 : Int32) (x2 : Int32) (σ : St) : CT shM l yX11_goes cX11_goes 4 none 0 0 emV α D cA [.ref (α 0), .int x1, .int x2] σ (f_X11_goes x1 x2 σ) := ct_of rfl (Nat.le_of_ble_eq_true rfl) hin (fun z _ C => w_X11_goes_e C x1 x2 σ)
set_option maxRecDepth 100000 in
set_option maxHeartbeats 4000000 in
theorem w_X11_lays_2 {α : Nat → Nat} {D : va_G} {cA : Nat → ClassId} {z : Cz} (C : CX shM α D cA z RX11 cX11_lays 4 none 1 25) : ∀ (n : Nat) (x1 : Int32) (x2 : Int32) (x3 : Int32) (σ : St), RX emV shM α D cA z 4 σ 2 [(0, .ref (α 0)), (1, .int x1), (2, .int x2), (3, .int x3)] [] (f_X11_lays_2 n x1 x2 x3 σ) := by
  intro n
  induction n with
  | zero => intros; exact rx_none
  | succ n hk_2 =>
    intro x1 x2 x3 σ
    rw [f_X11_lays_2.eq_2]
    refine rx_iload_n C 3 dX11_lays_2 rfl rfl ?_
    refine rx_bipush C dX11_lays_3 bp_26 ?_
    refine rx_icmp_ge C (tgt := 34) dX11_lays_5 (by decide) (fun _ => ?_) (fun _ => ?_)
    · exact rx_vret C dX11_lays_34
    · refine rx_aload_n C 0 dX11_lays_8 rfl rfl ?_
      refine rx_getC C (k := 54) sm_0 fc_X11 (by decide) 36 rfl lk_X11_177 dX11_lays_9 ?_
      refine rx_bipush C dX11_lays_12 bp_26 ?_
      refine rx_iload_n C 2 dX11_lays_14 rfl rfl ?_
      refine rx_imul C dX11_lays_15 ?_
      refine rx_iload_n C 3 dX11_lays_16 rfl rfl ?_
      refine rx_iadd C dX11_lays_17 ?_
      refine rx_lti (fun w4 => ?_)
      refine rx_dup2 C dX11_lays_18 rfl rfl ?_
      refine rx_iald C (n := 234) sm_36 dX11_lays_19 (fun _ => ?_)
      refine rx_aload_n C 0 dX11_lays_20 rfl rfl ?_
      refine rx_iload_n C 1 dX11_lays_21 rfl rfl ?_
      refine rx_iload_n C 3 dX11_lays_22 rfl rfl ?_
      refine rx_callVi C [.int x1, .int x3] [.int (gI σ 36 (ix w4)), .int w4, .ref (α 36)] (m_X11_often z.l C.inj x1 x3 σ) mv_X11_often lk_X11_477 sm_0 rfl rfl rfl (Nat.le_of_ble_eq_true rfl) ⟨Nat.le_of_ble_eq_true rfl, Nat.le_of_ble_eq_true rfl⟩ dX11_lays_23 (fun q5 => ?_)
      refine rx_iadd C dX11_lays_26 ?_
      refine rx_iast C (n := 234) sm_36 dX11_lays_27 (fun _ => ?_)
      refine rx_lts (fun σ6 => ?_)
      refine rx_iinc C (k0 := 3) (v := x3 + (1 : Int32)) [(3, .int (x3 + (1 : Int32))), (0, .ref (α 0)), (1, .int x1), (2, .int x2)] dX11_lays_28 rfl (congrArg _ ic_1) (by decide) rfl ?_
      refine rx_goto C (tgt := 2) dX11_lays_31 (by decide) ?_
      exact RX.loc (hk_2 x1 x2 (x3 + (1 : Int32)) σ6) [1, 2, 3, 0] rfl
set_option maxRecDepth 100000 in
set_option maxHeartbeats 4000000 in
theorem w_X11_lays_e {α : Nat → Nat} {D : va_G} {cA : Nat → ClassId} {z : Cz} (C : CX shM α D cA z RX11 cX11_lays 4 none 1 25) (x1 : Int32) (x2 : Int32) (σ : St) : RX emV shM α D cA z 4 σ 0 [(0, .ref (α 0)), (1, .int x1), (2, .int x2)] [] (f_X11_lays x1 x2 σ) := by
  unfold f_X11_lays
  refine rx_iconst C dX11_lays_0 ic_0 ?_
  refine rx_istore_n C [(3, .int (0 : Int32)), (0, .ref (α 0)), (1, .int x1), (2, .int x2)] dX11_lays_1 rfl (by decide) rfl ?_
  exact RX.loc (w_X11_lays_2 C FU x1 x2 (0 : Int32) σ) [1, 2, 3, 0] rfl
theorem m_X11_lays (l : Launch) {α : Nat → Nat} {D : va_G} {cA : Nat → ClassId} (hin : inj shM.length α) (x1 : Int32) (x2 : Int32) (σ : St) : CT shM l yX11_lays cX11_lays 4 none 1 25 emV α D cA [.ref (α 0), .int x1, .int x2] σ (f_X11_lays x1 x2 σ) := ct_of rfl (Nat.le_of_ble_eq_true rfl) hin (fun z _ C => w_X11_lays_e C x1 x2 σ)
set_option maxRecDepth 100000 in
set_option maxHeartbeats 4000000 in
theorem w_X11_lacks_31 {α : Nat → Nat} {D : va_G} {cA : Nat → ClassId} {z : Cz} (C : CX shM α D cA z RX11 cX11_lacks 5 (some .int) 1 25) (s0 : Int32) (σ : St) : RX emI shM α D cA z 5 σ 31 [] [.int s0] (f_X11_lacks_31 s0 σ) := by
  unfold f_X11_lacks_31
  exact rx_iret C dX11_lacks_31
set_option maxRecDepth 100000 in
set_option maxHeartbeats 4000000 in
theorem w_X11_lacks_e {α : Nat → Nat} {D : va_G} {cA : Nat → ClassId} {z : Cz} (C : CX shM α D cA z RX11 cX11_lacks 5 (some .int) 1 25) (x1 : Int32) (x2 : Int32) (x3 : Int32) (σ : St) : RX emI shM α D cA z 5 σ 0 [(0, .ref (α 0)), (1, .int x1), (2, .int x2), (3, .int x3)] [] (f_X11_lacks x1 x2 x3 σ) := by
  unfold f_X11_lacks
  refine rx_aload_n C 0 dX11_lacks_0 rfl rfl ?_
  refine rx_iload_n C 2 dX11_lacks_1 rfl rfl ?_
  refine rx_iload_n C 3 dX11_lacks_2 rfl rfl ?_
  refine rx_callVi C [.int x2, .int x3] [] (m_X11_often z.l C.inj x2 x3 σ) mv_X11_often lk_X11_477 sm_0 rfl rfl rfl (Nat.le_of_ble_eq_true rfl) ⟨Nat.le_of_ble_eq_true rfl, Nat.le_of_ble_eq_true rfl⟩ dX11_lacks_3 (fun q3 => ?_)
  refine rx_aload_n C 0 dX11_lacks_6 rfl rfl ?_
  refine rx_getC C (k := 54) sm_0 fc_X11 (by decide) 36 rfl lk_X11_177 dX11_lacks_7 ?_
  refine rx_bipush C dX11_lacks_10 bp_26 ?_
  refine rx_iload_n C 1 dX11_lacks_12 rfl rfl ?_
  refine rx_imul C dX11_lacks_13 ?_
  refine rx_iload_n C 3 dX11_lacks_14 rfl rfl ?_
  refine rx_iadd C dX11_lacks_15 ?_
  refine rx_iald C (n := 234) sm_36 dX11_lacks_16 (fun _ => ?_)
  refine rx_isub C dX11_lacks_17 ?_
  refine rx_lti (fun w4 => ?_)
  refine rx_istore C [(4, .int w4), (0, .ref (α 0)), (1, .int x1), (2, .int x2), (3, .int x3)] dX11_lacks_18 (by decide) rfl ?_
  refine rx_iload C 0 dX11_lacks_20 rfl ?_
  refine rx_if_ge C (tgt := 29) dX11_lacks_22 (by decide) (fun _ => ?_) (fun _ => ?_)
  · refine rx_iload C 0 dX11_lacks_29 rfl ?_
    exact RX.loc (w_X11_lacks_31 C w4 q3.2) [] rfl
  · refine rx_iconst C dX11_lacks_25 ic_0 ?_
    refine rx_goto C (tgt := 31) dX11_lacks_26 (by decide) ?_
    exact RX.loc (w_X11_lacks_31 C (0 : Int32) q3.2) [] rfl
theorem m_X11_lacks (l : Launch) {α : Nat → Nat} {D : va_G} {cA : Nat → ClassId} (hin : inj shM.length α) (x1 : Int32) (x2 : Int32) (x3 : Int32) (σ : St) : CT shM l yX11_lacks cX11_lacks 5 (some .int) 1 25 emI α D cA [.ref (α 0), .int x1, .int x2, .int x3] σ (f_X11_lacks x1 x2 x3 σ) := ct_of rfl (Nat.le_of_ble_eq_true rfl) hin (fun z _ C => w_X11_lacks_e C x1 x2 x3 σ)
set_option maxRecDepth 100000 in
set_option maxHeartbeats 4000000 in
theorem w_X11_lackOunces_5 {α : Nat → Nat} {D : va_G} {cA : Nat → ClassId} {z : Cz} (C : CX shM α D cA z RX11 cX11_lackOunces 5 (some .int) 2 49) : ∀ (n : Nat) (x1 : Int32) (x2 : Int32) (x3 : Int32) (x4 : Int32) (σ : St), RX emI shM α D cA z 5 σ 5 [(0, .ref (α 0)), (1, .int x1), (2, .int x2), (3, .int x3), (4, .int x4)] [] (f_X11_lackOunces_5 n x1 x2 x3 x4 σ) := by
  intro n
  induction n with
  | zero => intros; exact rx_none
  | succ n hk_5 =>
    intro x1 x2 x3 x4 σ
    rw [f_X11_lackOunces_5.eq_2]
    refine rx_iload C 4 dX11_lackOunces_5 rfl ?_
    refine rx_bipush C dX11_lackOunces_7 bp_26 ?_
    refine rx_icmp_ge C (tgt := 36) dX11_lackOunces_9 (by decide) (fun _ => ?_) (fun _ => ?_)
    · refine rx_iload_n C 3 dX11_lackOunces_36 rfl rfl ?_
      exact rx_iret C dX11_lackOunces_37
    · refine rx_iload_n C 3 dX11_lackOunces_12 rfl rfl ?_
      refine rx_aload_n C 0 dX11_lackOunces_13 rfl rfl ?_
      refine rx_iload_n C 1 dX11_lackOunces_14 rfl rfl ?_
      refine rx_iload_n C 2 dX11_lackOunces_15 rfl rfl ?_
      refine rx_iload C 4 dX11_lackOunces_16 rfl ?_
      refine rx_callVi C [.int x1, .int x2, .int x4] [.int x3] (m_X11_lacks z.l C.inj x1 x2 x4 σ) mv_X11_lacks lk_X11_507 sm_0 rfl rfl rfl (Nat.le_of_ble_eq_true rfl) ⟨Nat.le_of_ble_eq_true rfl, Nat.le_of_ble_eq_true rfl⟩ dX11_lackOunces_18 (fun q4 => ?_)
      refine rx_aload_n C 0 dX11_lackOunces_21 rfl rfl ?_
      refine rx_iload C 4 dX11_lackOunces_22 rfl ?_
      refine rx_callVi C [.int x4] [.int q4.1, .int x3] (m_X11_weight z.l C.inj x4 q4.2) mv_X11_weight lk_X11_433 sm_0 rfl rfl rfl (Nat.le_of_ble_eq_true rfl) ⟨Nat.le_of_ble_eq_true rfl, Nat.le_of_ble_eq_true rfl⟩ dX11_lackOunces_24 (fun q5 => ?_)
      refine rx_imul C dX11_lackOunces_27 ?_
      refine rx_iadd C dX11_lackOunces_28 ?_
      refine rx_lti (fun w6 => ?_)
      refine rx_istore_n C [(3, .int w6), (0, .ref (α 0)), (1, .int x1), (2, .int x2), (4, .int x4)] dX11_lackOunces_29 rfl (by decide) rfl ?_
      refine rx_iinc C (k0 := 4) (v := x4 + (1 : Int32)) [(4, .int (x4 + (1 : Int32))), (3, .int w6), (0, .ref (α 0)), (1, .int x1), (2, .int x2)] dX11_lackOunces_30 rfl (congrArg _ ic_1) (by decide) rfl ?_
      refine rx_goto C (tgt := 5) dX11_lackOunces_33 (by decide) ?_
      exact RX.loc (hk_5 x1 x2 w6 (x4 + (1 : Int32)) q5.2) [2, 3, 4, 1, 0] rfl
set_option maxRecDepth 100000 in
set_option maxHeartbeats 4000000 in
theorem w_X11_lackOunces_e {α : Nat → Nat} {D : va_G} {cA : Nat → ClassId} {z : Cz} (C : CX shM α D cA z RX11 cX11_lackOunces 5 (some .int) 2 49) (x1 : Int32) (x2 : Int32) (σ : St) : RX emI shM α D cA z 5 σ 0 [(0, .ref (α 0)), (1, .int x1), (2, .int x2)] [] (f_X11_lackOunces x1 x2 σ) := by
  unfold f_X11_lackOunces
  refine rx_iconst C dX11_lackOunces_0 ic_0 ?_
  refine rx_istore_n C [(3, .int (0 : Int32)), (0, .ref (α 0)), (1, .int x1), (2, .int x2)] dX11_lackOunces_1 rfl (by decide) rfl ?_
  refine rx_iconst C dX11_lackOunces_2 ic_0 ?_
  refine rx_istore C [(4, .int (0 : Int32)), (3, .int (0 : Int32)), (0, .ref (α 0)), (1, .int x1), (2, .int x2)] dX11_lackOunces_3 (by decide) rfl ?_
  exact RX.loc (w_X11_lackOunces_5 C FU x1 x2 (0 : Int32) (0 : Int32) σ) [2, 3, 4, 1, 0] rfl
theorem m_X11_lackOunces (l : Launch) {α : Nat → Nat} {D : va_G} {cA : Nat → ClassId} (hin : inj shM.length α) (x1 : Int32) (x2 : Int32) (σ : St) : CT shM l yX11_lackOunces cX11_lackOunces 5 (some .int) 2 49 emI α D cA [.ref (α 0), .int x1, .int x2] σ (f_X11_lackOunces x1 x2 σ) := ct_of rfl (Nat.le_of_ble_eq_true rfl) hin (fun z _ C => w_X11_lackOunces_e C x1 x2 σ)
set_option maxRecDepth 100000 in
set_option maxHeartbeats 4000000 in
theorem w_X11_canGain_72 {α : Nat → Nat} {D : va_G} {cA : Nat → ClassId} {z : Cz} (C : CX shM α D cA z RX11 cX11_canGain 4 (some .boolean) 4 100) (s0 : Int32) (σ : St) : RX emI shM α D cA z 4 σ 72 [] [.int s0] (f_X11_canGain_72 s0 σ) := by
  unfold f_X11_canGain_72
  exact rx_zret C dX11_canGain_72
set_option maxRecDepth 100000 in
set_option maxHeartbeats 4000000 in
theorem w_X11_canGain_13 {α : Nat → Nat} {D : va_G} {cA : Nat → ClassId} {z : Cz} (C : CX shM α D cA z RX11 cX11_canGain 4 (some .boolean) 4 100) : ∀ (n : Nat) (x1 : Int32) (x2 : Int32) (x3 : Int32) (σ : St), RX emI shM α D cA z 4 σ 13 [(0, .ref (α 0)), (1, .int x1), (2, .int x2), (3, .int x3)] [] (f_X11_canGain_13 n x1 x2 x3 σ) := by
  intro n
  induction n with
  | zero => intros; exact rx_none
  | succ n hk_13 =>
    intro x1 x2 x3 σ
    rw [f_X11_canGain_13.eq_2]
    refine rx_iload_n C 3 dX11_canGain_13 rfl rfl ?_
    refine rx_bipush C dX11_canGain_14 bp_26 ?_
    refine rx_icmp_ge C (tgt := 47) dX11_canGain_16 (by decide) (fun _ => ?_) (fun _ => ?_)
    · refine rx_aload_n C 0 dX11_canGain_47 rfl rfl ?_
      refine rx_iload_n C 1 dX11_canGain_48 rfl rfl ?_
      refine rx_callVi C [.int x1] [] (m_X11_loadOf z.l C.inj x1 σ) mv_X11_loadOf lk_X11_489 sm_0 rfl rfl rfl (Nat.le_of_ble_eq_true rfl) ⟨Nat.le_of_ble_eq_true rfl, Nat.le_of_ble_eq_true rfl⟩ dX11_canGain_49 (fun q7 => ?_)
      refine rx_aload_n C 0 dX11_canGain_52 rfl rfl ?_
      refine rx_iload_n C 1 dX11_canGain_53 rfl rfl ?_
      refine rx_iload_n C 2 dX11_canGain_54 rfl rfl ?_
      refine rx_callVi C [.int x1, .int x2] [.int q7.1] (m_X11_lackOunces z.l C.inj x1 x2 q7.2) mv_X11_lackOunces lk_X11_511 sm_0 rfl rfl rfl (Nat.le_of_ble_eq_true rfl) ⟨Nat.le_of_ble_eq_true rfl, Nat.le_of_ble_eq_true rfl⟩ dX11_canGain_55 (fun q8 => ?_)
      refine rx_iadd C dX11_canGain_58 ?_
      refine rx_aload_n C 0 dX11_canGain_59 rfl rfl ?_
      refine rx_iload_n C 1 dX11_canGain_60 rfl rfl ?_
      refine rx_callVi C [.int x1] [.int (q7.1 + q8.1)] (m_X11_limitOf z.l C.inj x1 q8.2) mv_X11_limitOf lk_X11_486 sm_0 rfl rfl rfl (Nat.le_of_ble_eq_true rfl) ⟨Nat.le_of_ble_eq_true rfl, Nat.le_of_ble_eq_true rfl⟩ dX11_canGain_61 (fun q9 => ?_)
      refine rx_icmp_gt C (tgt := 71) dX11_canGain_64 (by decide) (fun _ => ?_) (fun _ => ?_)
      · refine rx_iconst C dX11_canGain_71 ic_0 ?_
        exact RX.loc (w_X11_canGain_72 C (0 : Int32) q9.2) [] rfl
      · refine rx_iconst C dX11_canGain_67 ic_1 ?_
        refine rx_goto C (tgt := 72) dX11_canGain_68 (by decide) ?_
        exact RX.loc (w_X11_canGain_72 C (1 : Int32) q9.2) [] rfl
    · refine rx_aload_n C 0 dX11_canGain_19 rfl rfl ?_
      refine rx_iload_n C 1 dX11_canGain_20 rfl rfl ?_
      refine rx_iload_n C 2 dX11_canGain_21 rfl rfl ?_
      refine rx_iload_n C 3 dX11_canGain_22 rfl rfl ?_
      refine rx_callVi C [.int x1, .int x2, .int x3] [] (m_X11_lacks z.l C.inj x1 x2 x3 σ) mv_X11_lacks lk_X11_507 sm_0 rfl rfl rfl (Nat.le_of_ble_eq_true rfl) ⟨Nat.le_of_ble_eq_true rfl, Nat.le_of_ble_eq_true rfl⟩ dX11_canGain_23 (fun q10 => ?_)
      refine rx_aload_n C 0 dX11_canGain_26 rfl rfl ?_
      refine rx_getC C (k := 54) sm_0 fc_X11 (by decide) 36 rfl lk_X11_177 dX11_canGain_27 ?_
      refine rx_sipush C dX11_canGain_30 sp_208 ?_
      refine rx_iload_n C 3 dX11_canGain_33 rfl rfl ?_
      refine rx_iadd C dX11_canGain_34 ?_
      refine rx_iald C (n := 234) sm_36 dX11_canGain_35 (fun _ => ?_)
      refine rx_icmp_le C (tgt := 41) dX11_canGain_36 (by decide) (fun _ => ?_) (fun _ => ?_)
      · refine rx_iinc C (k0 := 3) (v := x3 + (1 : Int32)) [(3, .int (x3 + (1 : Int32))), (0, .ref (α 0)), (1, .int x1), (2, .int x2)] dX11_canGain_41 rfl (congrArg _ ic_1) (by decide) rfl ?_
        refine rx_goto C (tgt := 13) dX11_canGain_44 (by decide) ?_
        exact RX.loc (hk_13 x1 x2 (x3 + (1 : Int32)) q10.2) [1, 2, 3, 0] rfl
      · refine rx_iconst C dX11_canGain_39 ic_0 ?_
        exact rx_zretC C dX11_canGain_40 rfl
set_option maxRecDepth 100000 in
set_option maxHeartbeats 4000000 in
theorem w_X11_canGain_e {α : Nat → Nat} {D : va_G} {cA : Nat → ClassId} {z : Cz} (C : CX shM α D cA z RX11 cX11_canGain 4 (some .boolean) 4 100) (x1 : Int32) (x2 : Int32) (σ : St) : RX emI shM α D cA z 4 σ 0 [(0, .ref (α 0)), (1, .int x1), (2, .int x2)] [] (f_X11_canGain x1 x2 σ) := by
  unfold f_X11_canGain
  refine rx_aload_n C 0 dX11_canGain_0 rfl rfl ?_
  refine rx_iload_n C 1 dX11_canGain_1 rfl rfl ?_
  refine rx_iload_n C 2 dX11_canGain_2 rfl rfl ?_
  refine rx_callVi C [.int x1, .int x2] [] (m_X11_hasTitle z.l C.inj x1 x2 σ) mv_X11_hasTitle lk_X11_470 sm_0 rfl rfl rfl (Nat.le_of_ble_eq_true rfl) ⟨Nat.le_of_ble_eq_true rfl, Nat.le_of_ble_eq_true rfl⟩ dX11_canGain_3 (fun q6 => ?_)
  refine rx_if_eq C (tgt := 11) dX11_canGain_6 (by decide) (fun _ => ?_) (fun _ => ?_)
  · refine rx_iconst C dX11_canGain_11 ic_0 ?_
    refine rx_istore_n C [(3, .int (0 : Int32)), (0, .ref (α 0)), (1, .int x1), (2, .int x2)] dX11_canGain_12 rfl (by decide) rfl ?_
    exact RX.loc (w_X11_canGain_13 C FU x1 x2 (0 : Int32) q6.2) [1, 2, 3, 0] rfl
  · refine rx_iconst C dX11_canGain_9 ic_0 ?_
    exact rx_zretC C dX11_canGain_10 rfl
theorem m_X11_canGain (l : Launch) {α : Nat → Nat} {D : va_G} {cA : Nat → ClassId} (hin : inj shM.length α) (x1 : Int32) (x2 : Int32) (σ : St) : CT shM l yX11_canGain cX11_canGain 4 (some .boolean) 4 100 emI α D cA [.ref (α 0), .int x1, .int x2] σ (f_X11_canGain x1 x2 σ) := ct_of rfl (Nat.le_of_ble_eq_true rfl) hin (fun z _ C => w_X11_canGain_e C x1 x2 σ)
set_option maxRecDepth 100000 in
set_option maxHeartbeats 4000000 in
theorem w_X11_gains_10 {α : Nat → Nat} {D : va_G} {cA : Nat → ClassId} {z : Cz} (C : CX shM α D cA z RX11 cX11_gains 6 none 3 73) : ∀ (n : Nat) (x1 : Int32) (x2 : Int32) (x3 : Int32) (x4 : Int32) (σ : St), RX emV shM α D cA z 6 σ 10 [(0, .ref (α 0)), (1, .int x1), (2, .int x2), (3, .int x3), (4, .int x4)] [] (f_X11_gains_10 n x1 x2 x3 x4 σ) := by
  intro n
  induction n with
  | zero => intros; exact rx_none
  | succ n hk_10 =>
    intro x1 x2 x3 x4 σ
    rw [f_X11_gains_10.eq_2]
    refine rx_iload C 4 dX11_gains_10 rfl ?_
    refine rx_bipush C dX11_gains_12 bp_26 ?_
    refine rx_icmp_ge C (tgt := 74) dX11_gains_14 (by decide) (fun _ => ?_) (fun _ => ?_)
    · refine rx_aload_n C 0 dX11_gains_74 rfl rfl ?_
      refine rx_iload_n C 1 dX11_gains_75 rfl rfl ?_
      refine rx_iload_n C 2 dX11_gains_76 rfl rfl ?_
      refine rx_callVv C [.int x1, .int x2] [] (m_X11_comes z.l C.inj x1 x2 σ) mv_X11_comes lk_X11_514 sm_0 rfl rfl rfl (Nat.le_of_ble_eq_true rfl) ⟨Nat.le_of_ble_eq_true rfl, Nat.le_of_ble_eq_true rfl⟩ dX11_gains_77 (fun q11 => ?_)
      refine rx_aload_n C 0 dX11_gains_80 rfl rfl ?_
      refine rx_iconst C dX11_gains_81 ic_0 ?_
      refine rx_iload_n C 1 dX11_gains_82 rfl rfl ?_
      refine rx_iconst C dX11_gains_83 ic_m1 ?_
      refine rx_iload_n C 3 dX11_gains_84 rfl rfl ?_
      refine rx_callVv C [.int (0 : Int32), .int x1, .int (-1 : Int32), .int x3] [] (m_X11_notes z.l C.inj (0 : Int32) x1 (-1 : Int32) x3 q11.2) mv_X11_notes lk_X11_517 sm_0 rfl rfl rfl (Nat.le_of_ble_eq_true rfl) ⟨Nat.le_of_ble_eq_true rfl, Nat.le_of_ble_eq_true rfl⟩ dX11_gains_85 (fun q12 => ?_)
      exact rx_vret C dX11_gains_88
    · refine rx_aload_n C 0 dX11_gains_17 rfl rfl ?_
      refine rx_iload_n C 1 dX11_gains_18 rfl rfl ?_
      refine rx_iload_n C 2 dX11_gains_19 rfl rfl ?_
      refine rx_iload C 4 dX11_gains_20 rfl ?_
      refine rx_callVi C [.int x1, .int x2, .int x4] [] (m_X11_lacks z.l C.inj x1 x2 x4 σ) mv_X11_lacks lk_X11_507 sm_0 rfl rfl rfl (Nat.le_of_ble_eq_true rfl) ⟨Nat.le_of_ble_eq_true rfl, Nat.le_of_ble_eq_true rfl⟩ dX11_gains_22 (fun q13 => ?_)
      refine rx_istore C [(5, .int q13.1), (0, .ref (α 0)), (1, .int x1), (2, .int x2), (3, .int x3), (4, .int x4)] dX11_gains_25 (by decide) rfl ?_
      refine rx_aload_n C 1 dX11_gains_27 rfl rfl ?_
      refine rx_getC C (k := 54) sm_0 fc_X11 (by decide) 36 rfl lk_X11_177 dX11_gains_28 ?_
      refine rx_bipush C dX11_gains_31 bp_26 ?_
      refine rx_iload_n C 2 dX11_gains_33 rfl rfl ?_
      refine rx_imul C dX11_gains_34 ?_
      refine rx_iload C 5 dX11_gains_35 rfl ?_
      refine rx_iadd C dX11_gains_37 ?_
      refine rx_lti (fun w14 => ?_)
      refine rx_dup2 C dX11_gains_38 rfl rfl ?_
      refine rx_iald C (n := 234) sm_36 dX11_gains_39 (fun _ => ?_)
      refine rx_aload_n C 1 dX11_gains_40 rfl rfl ?_
      refine rx_iload_n C 3 dX11_gains_41 rfl rfl ?_
      refine rx_iload C 5 dX11_gains_42 rfl ?_
      refine rx_callVi C [.int x2, .int x4] [.int (gI q13.2 36 (ix w14)), .int w14, .ref (α 36)] (m_X11_often z.l C.inj x2 x4 q13.2) mv_X11_often lk_X11_477 sm_0 rfl rfl rfl (Nat.le_of_ble_eq_true rfl) ⟨Nat.le_of_ble_eq_true rfl, Nat.le_of_ble_eq_true rfl⟩ dX11_gains_44 (fun q15 => ?_)
      refine rx_iload C 0 dX11_gains_47 rfl ?_
      refine rx_isub C dX11_gains_49 ?_
      refine rx_isub C dX11_gains_50 ?_
      refine rx_iast C (n := 234) sm_36 dX11_gains_51 (fun _ => ?_)
      refine rx_lts (fun σ16 => ?_)
      refine rx_aload_n C 1 dX11_gains_52 rfl rfl ?_
      refine rx_getC C (k := 54) sm_0 fc_X11 (by decide) 36 rfl lk_X11_177 dX11_gains_53 ?_
      refine rx_sipush C dX11_gains_56 sp_208 ?_
      refine rx_iload C 5 dX11_gains_59 rfl ?_
      refine rx_iadd C dX11_gains_61 ?_
      refine rx_lti (fun w17 => ?_)
      refine rx_dup2 C dX11_gains_62 rfl rfl ?_
      refine rx_iald C (n := 234) sm_36 dX11_gains_63 (fun _ => ?_)
      refine rx_iload C 0 dX11_gains_64 rfl ?_
      refine rx_isub C dX11_gains_66 ?_
      refine rx_iast C (n := 234) sm_36 dX11_gains_67 (fun _ => ?_)
      refine rx_lts (fun σ18 => ?_)
      refine rx_iinc C (k0 := 5) (v := x4 + (1 : Int32)) [(4, .int (x4 + (1 : Int32))), (5, .int q13.1), (0, .ref (α 0)), (1, .int x1), (2, .int x2), (3, .int x3)] dX11_gains_68 rfl (congrArg _ ic_1) (by decide) rfl ?_
      refine rx_goto C (tgt := 10) dX11_gains_71 (by decide) ?_
      exact RX.loc (hk_10 x1 x2 x3 (x4 + (1 : Int32)) σ18) [2, 3, 4, 5, 0] rfl
set_option maxRecDepth 100000 in
set_option maxHeartbeats 4000000 in
theorem w_X11_gains_e {α : Nat → Nat} {D : va_G} {cA : Nat → ClassId} {z : Cz} (C : CX shM α D cA z RX11 cX11_gains 6 none 3 73) (x1 : Int32) (x2 : Int32) (σ : St) : RX emV shM α D cA z 6 σ 0 [(0, .ref (α 0)), (1, .int x1), (2, .int x2)] [] (f_X11_gains x1 x2 σ) := by
  unfold f_X11_gains
  refine rx_aload_n C 0 dX11_gains_0 rfl rfl ?_
  refine rx_iload_n C 1 dX11_gains_1 rfl rfl ?_
  refine rx_iload_n C 2 dX11_gains_2 rfl rfl ?_
  refine rx_callVi C [.int x1, .int x2] [] (m_X11_lackOunces z.l C.inj x1 x2 σ) mv_X11_lackOunces lk_X11_511 sm_0 rfl rfl rfl (Nat.le_of_ble_eq_true rfl) ⟨Nat.le_of_ble_eq_true rfl, Nat.le_of_ble_eq_true rfl⟩ dX11_gains_3 (fun q10 => ?_)
  refine rx_istore_n C [(3, .int q10.1), (0, .ref (α 0)), (1, .int x1), (2, .int x2)] dX11_gains_6 rfl (by decide) rfl ?_
  refine rx_iconst C dX11_gains_7 ic_0 ?_
  refine rx_istore C [(4, .int (0 : Int32)), (3, .int q10.1), (0, .ref (α 0)), (1, .int x1), (2, .int x2)] dX11_gains_8 (by decide) rfl ?_
  exact RX.loc (w_X11_gains_10 C FU x1 x2 q10.1 (0 : Int32) q10.2) [2, 3, 4, 1, 0] rfl
theorem m_X11_gains (l : Launch) {α : Nat → Nat} {D : va_G} {cA : Nat → ClassId} (hin : inj shM.length α) (x1 : Int32) (x2 : Int32) (σ : St) : CT shM l yX11_gains cX11_gains 6 none 3 73 emV α D cA [.ref (α 0), .int x1, .int x2] σ (f_X11_gains x1 x2 σ) := ct_of rfl (Nat.le_of_ble_eq_true rfl) hin (fun z _ C => w_X11_gains_e C x1 x2 σ)
set_option maxRecDepth 100000 in
set_option maxHeartbeats 4000000 in
theorem w_X11_gain_25 {α : Nat → Nat} {D : va_G} {cA : Nat → ClassId} {z : Cz} (C : CX shM α D cA z RX11 cX11_gain 3 (some .int) 5 123) (σ : St) : RX emI shM α D cA z 3 σ 25 [(0, .ref (α 0))] [] (f_X11_gain_25 σ) := by
  unfold f_X11_gain_25
  refine rx_aload_n C 0 dX11_gain_25 rfl rfl ?_
  refine rx_iconst C dX11_gain_26 ic_2 ?_
  refine rx_callVi C [.int (2 : Int32)] [] (m_X11_refuses z.l C.inj (2 : Int32) σ) mv_X11_refuses lk_X11_234 sm_0 rfl rfl rfl (Nat.le_of_ble_eq_true rfl) ⟨Nat.le_of_ble_eq_true rfl, Nat.le_of_ble_eq_true rfl⟩ dX11_gain_27 (fun q8 => ?_)
  exact rx_iret C dX11_gain_30
set_option maxRecDepth 100000 in
set_option maxHeartbeats 4000000 in
theorem w_X11_gain_e {α : Nat → Nat} {D : va_G} {cA : Nat → ClassId} {z : Cz} (C : CX shM α D cA z RX11 cX11_gain 3 (some .int) 5 123) (x1 : Int32) (x2 : Int32) (σ : St) : RX emI shM α D cA z 3 σ 0 [(0, .ref (α 0)), (1, .int x1), (2, .int x2)] [] (f_X11_gain x1 x2 σ) := by
  unfold f_X11_gain
  refine rx_aload_n C 0 dX11_gain_0 rfl rfl ?_
  refine rx_iload_n C 1 dX11_gain_1 rfl rfl ?_
  refine rx_callVi C [.int x1] [] (m_X11_isPerson z.l C.inj x1 σ) mv_X11_isPerson lk_X11_483 sm_0 rfl rfl rfl (Nat.le_of_ble_eq_true rfl) ⟨Nat.le_of_ble_eq_true rfl, Nat.le_of_ble_eq_true rfl⟩ dX11_gain_2 (fun q7 => ?_)
  refine rx_if_eq C (tgt := 25) dX11_gain_5 (by decide) (fun _ => ?_) (fun _ => ?_)
  · exact RX.loc (w_X11_gain_25 C q7.2) [0] rfl
  · refine rx_aload_n C 0 dX11_gain_8 rfl rfl ?_
    refine rx_iload_n C 2 dX11_gain_9 rfl rfl ?_
    refine rx_callVi C [.int x2] [] (m_X11_isTitle z.l C.inj x2 q7.2) mv_X11_isTitle lk_X11_467 sm_0 rfl rfl rfl (Nat.le_of_ble_eq_true rfl) ⟨Nat.le_of_ble_eq_true rfl, Nat.le_of_ble_eq_true rfl⟩ dX11_gain_10 (fun q9 => ?_)
    refine rx_if_eq C (tgt := 25) dX11_gain_13 (by decide) (fun _ => ?_) (fun _ => ?_)
    · exact RX.loc (w_X11_gain_25 C q9.2) [0] rfl
    · refine rx_aload_n C 0 dX11_gain_16 rfl rfl ?_
      refine rx_iload_n C 1 dX11_gain_17 rfl rfl ?_
      refine rx_iload_n C 2 dX11_gain_18 rfl rfl ?_
      refine rx_callVi C [.int x1, .int x2] [] (m_X11_canGain z.l C.inj x1 x2 q9.2) mv_X11_canGain lk_X11_521 sm_0 rfl rfl rfl (Nat.le_of_ble_eq_true rfl) ⟨Nat.le_of_ble_eq_true rfl, Nat.le_of_ble_eq_true rfl⟩ dX11_gain_19 (fun q10 => ?_)
      refine rx_if_ne C (tgt := 31) dX11_gain_22 (by decide) (fun _ => ?_) (fun _ => ?_)
      · exact RX.loc (w_X11_gain_25 C q10.2) [0] rfl
      · refine rx_aload_n C 0 dX11_gain_31 rfl rfl ?_
        refine rx_iload_n C 1 dX11_gain_32 rfl rfl ?_
        refine rx_iload_n C 2 dX11_gain_33 rfl rfl ?_
        refine rx_callVv C [.int x1, .int x2] [] (m_X11_gains z.l C.inj x1 x2 q10.2) mv_X11_gains lk_X11_524 sm_0 rfl rfl rfl (Nat.le_of_ble_eq_true rfl) ⟨Nat.le_of_ble_eq_true rfl, Nat.le_of_ble_eq_true rfl⟩ dX11_gain_34 (fun q11 => ?_)
        refine rx_aload_n C 0 dX11_gain_37 rfl rfl ?_
        refine rx_iload_n C 1 dX11_gain_38 rfl rfl ?_
        refine rx_callVi C [.int x1] [] (m_X11_loadOf z.l C.inj x1 q11.2) mv_X11_loadOf lk_X11_489 sm_0 rfl rfl rfl (Nat.le_of_ble_eq_true rfl) ⟨Nat.le_of_ble_eq_true rfl, Nat.le_of_ble_eq_true rfl⟩ dX11_gain_39 (fun q12 => ?_)
        exact rx_iret C dX11_gain_42
theorem m_X11_gain (l : Launch) {α : Nat → Nat} {D : va_G} {cA : Nat → ClassId} (hin : inj shM.length α) (x1 : Int32) (x2 : Int32) (σ : St) : CT shM l yX11_gain cX11_gain 3 (some .int) 5 123 emI α D cA [.ref (α 0), .int x1, .int x2] σ (f_X11_gain x1 x2 σ) := ct_of rfl (Nat.le_of_ble_eq_true rfl) hin (fun z _ C => w_X11_gain_e C x1 x2 σ)
set_option maxRecDepth 100000 in
set_option maxHeartbeats 4000000 in
theorem w_X11_sheds_e {α : Nat → Nat} {D : va_G} {cA : Nat → ClassId} {z : Cz} (C : CX shM α D cA z RX11 cX11_sheds 3 none 2 48) (x1 : Int32) (x2 : Int32) (σ : St) : RX emV shM α D cA z 3 σ 0 [(0, .ref (α 0)), (1, .int x1), (2, .int x2)] [] (f_X11_sheds x1 x2 σ) := by
  unfold f_X11_sheds
  refine rx_aload_n C 0 dX11_sheds_0 rfl rfl ?_
  refine rx_iload_n C 1 dX11_sheds_1 rfl rfl ?_
  refine rx_iload_n C 2 dX11_sheds_2 rfl rfl ?_
  refine rx_callVv C [.int x1, .int x2] [] (m_X11_goes z.l C.inj x1 x2 σ) mv_X11_goes lk_X11_527 sm_0 rfl rfl rfl (Nat.le_of_ble_eq_true rfl) ⟨Nat.le_of_ble_eq_true rfl, Nat.le_of_ble_eq_true rfl⟩ dX11_sheds_3 (fun q5 => ?_)
  refine rx_aload_n C 0 dX11_sheds_6 rfl rfl ?_
  refine rx_iload_n C 2 dX11_sheds_7 rfl rfl ?_
  refine rx_bipush C dX11_sheds_8 bp_8 ?_
  refine rx_callVv C [.int x2, .int (8 : Int32)] [] (m_X11_lays z.l C.inj x2 (8 : Int32) q5.2) mv_X11_lays lk_X11_530 sm_0 rfl rfl rfl (Nat.le_of_ble_eq_true rfl) ⟨Nat.le_of_ble_eq_true rfl, Nat.le_of_ble_eq_true rfl⟩ dX11_sheds_10 (fun q6 => ?_)
  refine rx_aload_n C 0 dX11_sheds_13 rfl rfl ?_
  refine rx_iconst C dX11_sheds_14 ic_1 ?_
  refine rx_iload_n C 1 dX11_sheds_15 rfl rfl ?_
  refine rx_iconst C dX11_sheds_16 ic_m1 ?_
  refine rx_aload_n C 0 dX11_sheds_17 rfl rfl ?_
  refine rx_iload_n C 2 dX11_sheds_18 rfl rfl ?_
  refine rx_callVi C [.int x2] [.int (-1 : Int32), .int x1, .int (1 : Int32), .ref (α 0)] (m_X11_ouncesOf z.l C.inj x2 q6.2) mv_X11_ouncesOf lk_X11_439 sm_0 rfl rfl rfl (Nat.le_of_ble_eq_true rfl) ⟨Nat.le_of_ble_eq_true rfl, Nat.le_of_ble_eq_true rfl⟩ dX11_sheds_19 (fun q7 => ?_)
  refine rx_callVv C [.int (1 : Int32), .int x1, .int (-1 : Int32), .int q7.1] [] (m_X11_notes z.l C.inj (1 : Int32) x1 (-1 : Int32) q7.1 q7.2) mv_X11_notes lk_X11_517 sm_0 rfl rfl rfl (Nat.le_of_ble_eq_true rfl) ⟨Nat.le_of_ble_eq_true rfl, Nat.le_of_ble_eq_true rfl⟩ dX11_sheds_22 (fun q8 => ?_)
  exact rx_vret C dX11_sheds_25
theorem m_X11_sheds (l : Launch) {α : Nat → Nat} {D : va_G} {cA : Nat → ClassId} (hin : inj shM.length α) (x1 : Int32) (x2 : Int32) (σ : St) : CT shM l yX11_sheds cX11_sheds 3 none 2 48 emV α D cA [.ref (α 0), .int x1, .int x2] σ (f_X11_sheds x1 x2 σ) := ct_of rfl (Nat.le_of_ble_eq_true rfl) hin (fun z _ C => w_X11_sheds_e C x1 x2 σ)
set_option maxRecDepth 100000 in
set_option maxHeartbeats 4000000 in
theorem w_X11_shed_25 {α : Nat → Nat} {D : va_G} {cA : Nat → ClassId} {z : Cz} (C : CX shM α D cA z RX11 cX11_shed 3 (some .int) 4 90) (σ : St) : RX emI shM α D cA z 3 σ 25 [(0, .ref (α 0))] [] (f_X11_shed_25 σ) := by
  unfold f_X11_shed_25
  refine rx_aload_n C 0 dX11_shed_25 rfl rfl ?_
  refine rx_iconst C dX11_shed_26 ic_2 ?_
  refine rx_callVi C [.int (2 : Int32)] [] (m_X11_refuses z.l C.inj (2 : Int32) σ) mv_X11_refuses lk_X11_234 sm_0 rfl rfl rfl (Nat.le_of_ble_eq_true rfl) ⟨Nat.le_of_ble_eq_true rfl, Nat.le_of_ble_eq_true rfl⟩ dX11_shed_27 (fun q8 => ?_)
  exact rx_iret C dX11_shed_30
set_option maxRecDepth 100000 in
set_option maxHeartbeats 4000000 in
theorem w_X11_shed_e {α : Nat → Nat} {D : va_G} {cA : Nat → ClassId} {z : Cz} (C : CX shM α D cA z RX11 cX11_shed 3 (some .int) 4 90) (x1 : Int32) (x2 : Int32) (σ : St) : RX emI shM α D cA z 3 σ 0 [(0, .ref (α 0)), (1, .int x1), (2, .int x2)] [] (f_X11_shed x1 x2 σ) := by
  unfold f_X11_shed
  refine rx_aload_n C 0 dX11_shed_0 rfl rfl ?_
  refine rx_iload_n C 1 dX11_shed_1 rfl rfl ?_
  refine rx_callVi C [.int x1] [] (m_X11_isPerson z.l C.inj x1 σ) mv_X11_isPerson lk_X11_483 sm_0 rfl rfl rfl (Nat.le_of_ble_eq_true rfl) ⟨Nat.le_of_ble_eq_true rfl, Nat.le_of_ble_eq_true rfl⟩ dX11_shed_2 (fun q7 => ?_)
  refine rx_if_eq C (tgt := 25) dX11_shed_5 (by decide) (fun _ => ?_) (fun _ => ?_)
  · exact RX.loc (w_X11_shed_25 C q7.2) [0] rfl
  · refine rx_aload_n C 0 dX11_shed_8 rfl rfl ?_
    refine rx_iload_n C 2 dX11_shed_9 rfl rfl ?_
    refine rx_callVi C [.int x2] [] (m_X11_isTitle z.l C.inj x2 q7.2) mv_X11_isTitle lk_X11_467 sm_0 rfl rfl rfl (Nat.le_of_ble_eq_true rfl) ⟨Nat.le_of_ble_eq_true rfl, Nat.le_of_ble_eq_true rfl⟩ dX11_shed_10 (fun q9 => ?_)
    refine rx_if_eq C (tgt := 25) dX11_shed_13 (by decide) (fun _ => ?_) (fun _ => ?_)
    · exact RX.loc (w_X11_shed_25 C q9.2) [0] rfl
    · refine rx_aload_n C 0 dX11_shed_16 rfl rfl ?_
      refine rx_iload_n C 1 dX11_shed_17 rfl rfl ?_
      refine rx_iload_n C 2 dX11_shed_18 rfl rfl ?_
      refine rx_callVi C [.int x1, .int x2] [] (m_X11_hasTitle z.l C.inj x1 x2 q9.2) mv_X11_hasTitle lk_X11_470 sm_0 rfl rfl rfl (Nat.le_of_ble_eq_true rfl) ⟨Nat.le_of_ble_eq_true rfl, Nat.le_of_ble_eq_true rfl⟩ dX11_shed_19 (fun q10 => ?_)
      refine rx_if_ne C (tgt := 31) dX11_shed_22 (by decide) (fun _ => ?_) (fun _ => ?_)
      · exact RX.loc (w_X11_shed_25 C q10.2) [0] rfl
      · refine rx_aload_n C 0 dX11_shed_31 rfl rfl ?_
        refine rx_iload_n C 1 dX11_shed_32 rfl rfl ?_
        refine rx_iload_n C 2 dX11_shed_33 rfl rfl ?_
        refine rx_callVv C [.int x1, .int x2] [] (m_X11_sheds z.l C.inj x1 x2 q10.2) mv_X11_sheds lk_X11_533 sm_0 rfl rfl rfl (Nat.le_of_ble_eq_true rfl) ⟨Nat.le_of_ble_eq_true rfl, Nat.le_of_ble_eq_true rfl⟩ dX11_shed_34 (fun q11 => ?_)
        refine rx_aload_n C 0 dX11_shed_37 rfl rfl ?_
        refine rx_iload_n C 1 dX11_shed_38 rfl rfl ?_
        refine rx_callVi C [.int x1] [] (m_X11_loadOf z.l C.inj x1 q11.2) mv_X11_loadOf lk_X11_489 sm_0 rfl rfl rfl (Nat.le_of_ble_eq_true rfl) ⟨Nat.le_of_ble_eq_true rfl, Nat.le_of_ble_eq_true rfl⟩ dX11_shed_39 (fun q12 => ?_)
        exact rx_iret C dX11_shed_42
theorem m_X11_shed (l : Launch) {α : Nat → Nat} {D : va_G} {cA : Nat → ClassId} (hin : inj shM.length α) (x1 : Int32) (x2 : Int32) (σ : St) : CT shM l yX11_shed cX11_shed 3 (some .int) 4 90 emI α D cA [.ref (α 0), .int x1, .int x2] σ (f_X11_shed x1 x2 σ) := ct_of rfl (Nat.le_of_ble_eq_true rfl) hin (fun z _ C => w_X11_shed_e C x1 x2 σ)
set_option maxRecDepth 100000 in
set_option maxHeartbeats 4000000 in
theorem w_X11_unpicked_35 {α : Nat → Nat} {D : va_G} {cA : Nat → ClassId} {z : Cz} (C : CX shM α D cA z RX11 cX11_unpicked 4 (some .int) 1 25) (k_2 : Int32 → Int32 → Int32 → St → Option (Int32 × St)) (hk_2 : ∀ (x1 : Int32) (x2 : Int32) (x3 : Int32) (σ : St), RX emI shM α D cA z 4 σ 2 [(0, .ref (α 0)), (1, .int x1), (2, .int x2), (3, .int x3)] [] (k_2 x1 x2 x3 σ)) (x1 : Int32) (x2 : Int32) (x3 : Int32) (σ : St) : RX emI shM α D cA z 4 σ 35 [(0, .ref (α 0)), (1, .int x1), (2, .int x2), (3, .int x3)] [] (f_X11_unpicked_35 k_2 x1 x2 x3 σ) := by
  unfold f_X11_unpicked_35
  refine rx_iinc C (k0 := 3) (v := x3 + (1 : Int32)) [(3, .int (x3 + (1 : Int32))), (0, .ref (α 0)), (1, .int x1), (2, .int x2)] dX11_unpicked_35 rfl (congrArg _ ic_1) (by decide) rfl ?_
  refine rx_goto C (tgt := 2) dX11_unpicked_38 (by decide) ?_
  exact RX.loc (hk_2 x1 x2 (x3 + (1 : Int32)) σ) [1, 2, 3, 0] rfl
set_option maxRecDepth 100000 in
set_option maxHeartbeats 4000000 in
theorem w_X11_unpicked_2 {α : Nat → Nat} {D : va_G} {cA : Nat → ClassId} {z : Cz} (C : CX shM α D cA z RX11 cX11_unpicked 4 (some .int) 1 25) : ∀ (n : Nat) (x1 : Int32) (x2 : Int32) (x3 : Int32) (σ : St), RX emI shM α D cA z 4 σ 2 [(0, .ref (α 0)), (1, .int x1), (2, .int x2), (3, .int x3)] [] (f_X11_unpicked_2 n x1 x2 x3 σ) := by
  intro n
  induction n with
  | zero => intros; exact rx_none
  | succ n hk_2 =>
    intro x1 x2 x3 σ
    rw [f_X11_unpicked_2.eq_2]
    refine rx_iload_n C 3 dX11_unpicked_2 rfl rfl ?_
    refine rx_aload_n C 0 dX11_unpicked_3 rfl rfl ?_
    refine rx_getC C (k := 20) sm_0 fc_X11 (by decide) 9 rfl lk_X11_73 dX11_unpicked_4 ?_
    refine rx_aload_n C 0 dX11_unpicked_7 rfl rfl ?_
    refine rx_getI C (k := 12) sm_0 fc_X11 (by decide) rfl lk_X11_48 dX11_unpicked_8 ?_
    refine rx_iald C (n := 2) sm_9 dX11_unpicked_11 (fun _ => ?_)
    refine rx_icmp_ge C (tgt := 41) dX11_unpicked_12 (by decide) (fun _ => ?_) (fun _ => ?_)
    · refine rx_iconst C dX11_unpicked_41 ic_m1 ?_
      exact rx_iret C dX11_unpicked_42
    · refine rx_aload_n C 0 dX11_unpicked_15 rfl rfl ?_
      refine rx_iload_n C 1 dX11_unpicked_16 rfl rfl ?_
      refine rx_iload_n C 3 dX11_unpicked_17 rfl rfl ?_
      refine rx_callVi C [.int x1, .int x3] [] (m_X11_hasTitle z.l C.inj x1 x3 σ) mv_X11_hasTitle lk_X11_470 sm_0 rfl rfl rfl (Nat.le_of_ble_eq_true rfl) ⟨Nat.le_of_ble_eq_true rfl, Nat.le_of_ble_eq_true rfl⟩ dX11_unpicked_18 (fun q3 => ?_)
      refine rx_if_eq C (tgt := 35) dX11_unpicked_21 (by decide) (fun _ => ?_) (fun _ => ?_)
      · exact RX.loc (w_X11_unpicked_35 C (f_X11_unpicked_2 n) hk_2 x1 x2 x3 q3.2) [0, 1, 2, 3] rfl
      · refine rx_aload_n C 0 dX11_unpicked_24 rfl rfl ?_
        refine rx_iload_n C 3 dX11_unpicked_25 rfl rfl ?_
        refine rx_iload_n C 2 dX11_unpicked_26 rfl rfl ?_
        refine rx_callVi C [.int x3, .int x2] [] (m_X11_often z.l C.inj x3 x2 q3.2) mv_X11_often lk_X11_477 sm_0 rfl rfl rfl (Nat.le_of_ble_eq_true rfl) ⟨Nat.le_of_ble_eq_true rfl, Nat.le_of_ble_eq_true rfl⟩ dX11_unpicked_27 (fun q4 => ?_)
        refine rx_if_le C (tgt := 35) dX11_unpicked_30 (by decide) (fun _ => ?_) (fun _ => ?_)
        · exact RX.loc (w_X11_unpicked_35 C (f_X11_unpicked_2 n) hk_2 x1 x2 x3 q4.2) [0, 1, 2, 3] rfl
        · refine rx_iload_n C 3 dX11_unpicked_33 rfl rfl ?_
          exact rx_iret C dX11_unpicked_34
set_option maxRecDepth 100000 in
set_option maxHeartbeats 4000000 in
theorem w_X11_unpicked_e {α : Nat → Nat} {D : va_G} {cA : Nat → ClassId} {z : Cz} (C : CX shM α D cA z RX11 cX11_unpicked 4 (some .int) 1 25) (x1 : Int32) (x2 : Int32) (σ : St) : RX emI shM α D cA z 4 σ 0 [(0, .ref (α 0)), (1, .int x1), (2, .int x2)] [] (f_X11_unpicked x1 x2 σ) := by
  unfold f_X11_unpicked
  refine rx_iconst C dX11_unpicked_0 ic_0 ?_
  refine rx_istore_n C [(3, .int (0 : Int32)), (0, .ref (α 0)), (1, .int x1), (2, .int x2)] dX11_unpicked_1 rfl (by decide) rfl ?_
  exact RX.loc (w_X11_unpicked_2 C FU x1 x2 (0 : Int32) σ) [1, 2, 3, 0] rfl
theorem m_X11_unpicked (l : Launch) {α : Nat → Nat} {D : va_G} {cA : Nat → ClassId} (hin : inj shM.length α) (x1 : Int32) (x2 : Int32) (σ : St) : CT shM l yX11_unpicked cX11_unpicked 4 (some .int) 1 25 emI α D cA [.ref (α 0), .int x1, .int x2] σ (f_X11_unpicked x1 x2 σ) := ct_of rfl (Nat.le_of_ble_eq_true rfl) hin (fun z _ C => w_X11_unpicked_e C x1 x2 σ)
set_option maxRecDepth 100000 in
set_option maxHeartbeats 4000000 in
theorem w_X11_steal_41 {α : Nat → Nat} {D : va_G} {cA : Nat → ClassId} {z : Cz} (C : CX shM α D cA z RX11 cX11_steal 6 (some .boolean) 2 48) (s0 : Int32) (σ : St) : RX emI shM α D cA z 6 σ 41 [] [.int s0] (f_X11_steal_41 s0 σ) := by
  unfold f_X11_steal_41
  exact rx_zret C dX11_steal_41
set_option maxRecDepth 100000 in
set_option maxHeartbeats 4000000 in
theorem w_X11_steal_28 {α : Nat → Nat} {D : va_G} {cA : Nat → ClassId} {z : Cz} (C : CX shM α D cA z RX11 cX11_steal 6 (some .boolean) 2 48) (σ : St) : RX emI shM α D cA z 6 σ 28 [(0, .ref (α 0))] [] (f_X11_steal_28 σ) := by
  unfold f_X11_steal_28
  refine rx_aload_n C 0 dX11_steal_28 rfl rfl ?_
  refine rx_iconst C dX11_steal_29 ic_2 ?_
  refine rx_callVi C [.int (2 : Int32)] [] (m_X11_refuses z.l C.inj (2 : Int32) σ) mv_X11_refuses lk_X11_234 sm_0 rfl rfl rfl (Nat.le_of_ble_eq_true rfl) ⟨Nat.le_of_ble_eq_true rfl, Nat.le_of_ble_eq_true rfl⟩ dX11_steal_30 (fun q17 => ?_)
  refine rx_if_lt C (tgt := 40) dX11_steal_33 (by decide) (fun _ => ?_) (fun _ => ?_)
  · refine rx_iconst C dX11_steal_40 ic_0 ?_
    exact RX.loc (w_X11_steal_41 C (0 : Int32) q17.2) [] rfl
  · refine rx_iconst C dX11_steal_36 ic_1 ?_
    refine rx_goto C (tgt := 41) dX11_steal_37 (by decide) ?_
    exact RX.loc (w_X11_steal_41 C (1 : Int32) q17.2) [] rfl
set_option maxRecDepth 100000 in
set_option maxHeartbeats 4000000 in
theorem w_X11_steal_91 {α : Nat → Nat} {D : va_G} {cA : Nat → ClassId} {z : Cz} (C : CX shM α D cA z RX11 cX11_steal 6 (some .boolean) 2 48) (s0 : Int32) (σ : St) : RX emI shM α D cA z 6 σ 91 [] [.int s0] (f_X11_steal_91 s0 σ) := by
  unfold f_X11_steal_91
  exact rx_zret C dX11_steal_91
set_option maxRecDepth 100000 in
set_option maxHeartbeats 4000000 in
theorem w_X11_steal_106 {α : Nat → Nat} {D : va_G} {cA : Nat → ClassId} {z : Cz} (C : CX shM α D cA z RX11 cX11_steal 6 (some .boolean) 2 48) (x1 : Int32) (x2 : Int32) (x4 : Int32) (σ : St) : RX emI shM α D cA z 6 σ 106 [(0, .ref (α 0)), (1, .int x1), (2, .int x2), (4, .int x4)] [] (f_X11_steal_106 x1 x2 x4 σ) := by
  unfold f_X11_steal_106
  refine rx_aload_n C 0 dX11_steal_106 rfl rfl ?_
  refine rx_getC C (k := 54) sm_0 fc_X11 (by decide) 36 rfl lk_X11_177 dX11_steal_107 ?_
  refine rx_bipush C dX11_steal_110 bp_26 ?_
  refine rx_iload_n C 2 dX11_steal_112 rfl rfl ?_
  refine rx_imul C dX11_steal_113 ?_
  refine rx_iload C 3 dX11_steal_114 rfl ?_
  refine rx_iadd C dX11_steal_116 ?_
  refine rx_lti (fun w25 => ?_)
  refine rx_dup2 C dX11_steal_117 rfl rfl ?_
  refine rx_iald C (n := 234) sm_36 dX11_steal_118 (fun _ => ?_)
  refine rx_iconst C dX11_steal_119 ic_1 ?_
  refine rx_isub C dX11_steal_120 ?_
  refine rx_iast C (n := 234) sm_36 dX11_steal_121 (fun _ => ?_)
  refine rx_lts (fun σ26 => ?_)
  refine rx_aload_n C 0 dX11_steal_122 rfl rfl ?_
  refine rx_getC C (k := 54) sm_0 fc_X11 (by decide) 36 rfl lk_X11_177 dX11_steal_123 ?_
  refine rx_bipush C dX11_steal_126 bp_26 ?_
  refine rx_iload_n C 1 dX11_steal_128 rfl rfl ?_
  refine rx_imul C dX11_steal_129 ?_
  refine rx_iload C 3 dX11_steal_130 rfl ?_
  refine rx_iadd C dX11_steal_132 ?_
  refine rx_lti (fun w27 => ?_)
  refine rx_dup2 C dX11_steal_133 rfl rfl ?_
  refine rx_iald C (n := 234) sm_36 dX11_steal_134 (fun _ => ?_)
  refine rx_iconst C dX11_steal_135 ic_1 ?_
  refine rx_iadd C dX11_steal_136 ?_
  refine rx_iast C (n := 234) sm_36 dX11_steal_137 (fun _ => ?_)
  refine rx_lts (fun σ28 => ?_)
  refine rx_aload_n C 0 dX11_steal_138 rfl rfl ?_
  refine rx_iconst C dX11_steal_139 ic_2 ?_
  refine rx_iload_n C 1 dX11_steal_140 rfl rfl ?_
  refine rx_iload_n C 2 dX11_steal_141 rfl rfl ?_
  refine rx_aload_n C 0 dX11_steal_142 rfl rfl ?_
  refine rx_iload C 3 dX11_steal_143 rfl ?_
  refine rx_callVi C [.int x4] [.int x2, .int x1, .int (2 : Int32), .ref (α 0)] (m_X11_weight z.l C.inj x4 σ28) mv_X11_weight lk_X11_433 sm_0 rfl rfl rfl (Nat.le_of_ble_eq_true rfl) ⟨Nat.le_of_ble_eq_true rfl, Nat.le_of_ble_eq_true rfl⟩ dX11_steal_145 (fun q29 => ?_)
  refine rx_callVv C [.int (2 : Int32), .int x1, .int x2, .int q29.1] [] (m_X11_notes z.l C.inj (2 : Int32) x1 x2 q29.1 q29.2) mv_X11_notes lk_X11_517 sm_0 rfl rfl rfl (Nat.le_of_ble_eq_true rfl) ⟨Nat.le_of_ble_eq_true rfl, Nat.le_of_ble_eq_true rfl⟩ dX11_steal_148 (fun q30 => ?_)
  refine rx_iconst C dX11_steal_151 ic_1 ?_
  exact rx_zretC C dX11_steal_152 rfl
set_option maxRecDepth 100000 in
set_option maxHeartbeats 4000000 in
theorem w_X11_steal_e {α : Nat → Nat} {D : va_G} {cA : Nat → ClassId} {z : Cz} (C : CX shM α D cA z RX11 cX11_steal 6 (some .boolean) 2 48) (x1 : Int32) (x2 : Int32) (x3 : Int32) (σ : St) : RX emI shM α D cA z 6 σ 0 [(0, .ref (α 0)), (1, .int x1), (2, .int x2), (3, .int x3)] [] (f_X11_steal x1 x2 x3 σ) := by
  unfold f_X11_steal
  refine rx_aload_n C 0 dX11_steal_0 rfl rfl ?_
  refine rx_iload_n C 1 dX11_steal_1 rfl rfl ?_
  refine rx_callVi C [.int x1] [] (m_X11_isPerson z.l C.inj x1 σ) mv_X11_isPerson lk_X11_483 sm_0 rfl rfl rfl (Nat.le_of_ble_eq_true rfl) ⟨Nat.le_of_ble_eq_true rfl, Nat.le_of_ble_eq_true rfl⟩ dX11_steal_2 (fun q16 => ?_)
  refine rx_if_eq C (tgt := 28) dX11_steal_5 (by decide) (fun _ => ?_) (fun _ => ?_)
  · exact RX.loc (w_X11_steal_28 C q16.2) [0] rfl
  · refine rx_aload_n C 0 dX11_steal_8 rfl rfl ?_
    refine rx_iload_n C 2 dX11_steal_9 rfl rfl ?_
    refine rx_callVi C [.int x2] [] (m_X11_isPerson z.l C.inj x2 q16.2) mv_X11_isPerson lk_X11_483 sm_0 rfl rfl rfl (Nat.le_of_ble_eq_true rfl) ⟨Nat.le_of_ble_eq_true rfl, Nat.le_of_ble_eq_true rfl⟩ dX11_steal_10 (fun q18 => ?_)
    refine rx_if_eq C (tgt := 28) dX11_steal_13 (by decide) (fun _ => ?_) (fun _ => ?_)
    · exact RX.loc (w_X11_steal_28 C q18.2) [0] rfl
    · refine rx_iload_n C 1 dX11_steal_16 rfl rfl ?_
      refine rx_iload_n C 2 dX11_steal_17 rfl rfl ?_
      refine rx_icmp_eq C (tgt := 28) dX11_steal_18 (by decide) (fun _ => ?_) (fun _ => ?_)
      · exact RX.loc (w_X11_steal_28 C q18.2) [0] rfl
      · refine rx_iload_n C 3 dX11_steal_21 rfl rfl ?_
        refine rx_callSi C [.int x3] [] (m_X11_isLetterCode z.l C.inj x3 q18.2) ms_X11_isLetterCode lk_X11_464 rfl rfl (Nat.le_of_ble_eq_true rfl) ⟨Nat.le_of_ble_eq_true rfl, Nat.le_of_ble_eq_true rfl⟩ dX11_steal_22 (fun q19 => ?_)
        refine rx_if_ne C (tgt := 42) dX11_steal_25 (by decide) (fun _ => ?_) (fun _ => ?_)
        · exact RX.loc (w_X11_steal_28 C q19.2) [0] rfl
        · refine rx_iload_n C 3 dX11_steal_42 rfl rfl ?_
          refine rx_bipush C dX11_steal_43 bp_97 ?_
          refine rx_isub C dX11_steal_45 ?_
          refine rx_lti (fun w20 => ?_)
          refine rx_istore C [(4, .int w20), (0, .ref (α 0)), (1, .int x1), (2, .int x2), (3, .int x3)] dX11_steal_46 (by decide) rfl ?_
          refine rx_aload_n C 1 dX11_steal_48 rfl rfl ?_
          refine rx_getC C (k := 54) sm_0 fc_X11 (by decide) 36 rfl lk_X11_177 dX11_steal_49 ?_
          refine rx_bipush C dX11_steal_52 bp_26 ?_
          refine rx_iload_n C 3 dX11_steal_54 rfl rfl ?_
          refine rx_imul C dX11_steal_55 ?_
          refine rx_iload C 0 dX11_steal_56 rfl ?_
          refine rx_iadd C dX11_steal_58 ?_
          refine rx_iald C (n := 234) sm_36 dX11_steal_59 (fun _ => ?_)
          refine rx_if_ne C (tgt := 106) dX11_steal_60 (by decide) (fun _ => ?_) (fun _ => ?_)
          · refine rx_aload_n C 1 dX11_steal_63 rfl rfl ?_
            refine rx_iload_n C 3 dX11_steal_64 rfl rfl ?_
            refine rx_iload C 0 dX11_steal_65 rfl ?_
            refine rx_callVi C [.int x2, .int w20] [] (m_X11_unpicked z.l C.inj x2 w20 q19.2) mv_X11_unpicked lk_X11_536 sm_0 rfl rfl rfl (Nat.le_of_ble_eq_true rfl) ⟨Nat.le_of_ble_eq_true rfl, Nat.le_of_ble_eq_true rfl⟩ dX11_steal_67 (fun q21 => ?_)
            refine rx_istore C [(5, .int q21.1), (4, .int w20), (0, .ref (α 0)), (1, .int x1), (2, .int x2), (3, .int x3)] dX11_steal_70 (by decide) rfl ?_
            refine rx_iload C 0 dX11_steal_72 rfl ?_
            refine rx_iconst C dX11_steal_74 ic_m1 ?_
            refine rx_icmp_ne C (tgt := 92) dX11_steal_75 (by decide) (fun _ => ?_) (fun _ => ?_)
            · refine rx_aload_n C 2 dX11_steal_78 rfl rfl ?_
              refine rx_iconst C dX11_steal_79 ic_2 ?_
              refine rx_callVi C [.int (2 : Int32)] [] (m_X11_refuses z.l C.inj (2 : Int32) q21.2) mv_X11_refuses lk_X11_234 sm_0 rfl rfl rfl (Nat.le_of_ble_eq_true rfl) ⟨Nat.le_of_ble_eq_true rfl, Nat.le_of_ble_eq_true rfl⟩ dX11_steal_80 (fun q22 => ?_)
              refine rx_if_lt C (tgt := 90) dX11_steal_83 (by decide) (fun _ => ?_) (fun _ => ?_)
              · refine rx_iconst C dX11_steal_90 ic_0 ?_
                exact RX.loc (w_X11_steal_91 C (0 : Int32) q22.2) [] rfl
              · refine rx_iconst C dX11_steal_86 ic_1 ?_
                refine rx_goto C (tgt := 91) dX11_steal_87 (by decide) ?_
                exact RX.loc (w_X11_steal_91 C (1 : Int32) q22.2) [] rfl
            · refine rx_aload_n C 2 dX11_steal_92 rfl rfl ?_
              refine rx_iload_n C 4 dX11_steal_93 rfl rfl ?_
              refine rx_iload C 0 dX11_steal_94 rfl ?_
              refine rx_callVv C [.int x2, .int q21.1] [] (m_X11_goes z.l C.inj x2 q21.1 q21.2) mv_X11_goes lk_X11_527 sm_0 rfl rfl rfl (Nat.le_of_ble_eq_true rfl) ⟨Nat.le_of_ble_eq_true rfl, Nat.le_of_ble_eq_true rfl⟩ dX11_steal_96 (fun q23 => ?_)
              refine rx_aload_n C 2 dX11_steal_99 rfl rfl ?_
              refine rx_iload C 0 dX11_steal_100 rfl ?_
              refine rx_iload_n C 4 dX11_steal_102 rfl rfl ?_
              refine rx_callVv C [.int q21.1, .int x2] [] (m_X11_lays z.l C.inj q21.1 x2 q23.2) mv_X11_lays lk_X11_530 sm_0 rfl rfl rfl (Nat.le_of_ble_eq_true rfl) ⟨Nat.le_of_ble_eq_true rfl, Nat.le_of_ble_eq_true rfl⟩ dX11_steal_103 (fun q24 => ?_)
              exact RX.loc (w_X11_steal_106 C x1 x2 w20 q24.2) [2, 3, 4, 1] rfl
          · exact RX.loc (w_X11_steal_106 C x1 x2 w20 q19.2) [1, 2, 3, 0] rfl
theorem m_X11_steal (l : Launch) {α : Nat → Nat} {D : va_G} {cA : Nat → ClassId} (hin : inj shM.length α) (x1 : Int32) (x2 : Int32) (x3 : Int32) (σ : St) : CT shM l yX11_steal cX11_steal 6 (some .boolean) 2 48 emI α D cA [.ref (α 0), .int x1, .int x2, .int x3] σ (f_X11_steal x1 x2 x3 σ) := ct_of rfl (Nat.le_of_ble_eq_true rfl) hin (fun z _ C => w_X11_steal_e C x1 x2 x3 σ)
set_option maxRecDepth 100000 in
set_option maxHeartbeats 4000000 in
theorem w_X11_trade_55 {α : Nat → Nat} {D : va_G} {cA : Nat → ClassId} {z : Cz} (C : CX shM α D cA z RX11 cX11_trade 7 (some .boolean) 2 43) (s0 : Int32) (σ : St) : RX emI shM α D cA z 7 σ 55 [] [.int s0] (f_X11_trade_55 s0 σ) := by
  unfold f_X11_trade_55
  exact rx_zret C dX11_trade_55
set_option maxRecDepth 100000 in
set_option maxHeartbeats 4000000 in
theorem w_X11_trade_42 {α : Nat → Nat} {D : va_G} {cA : Nat → ClassId} {z : Cz} (C : CX shM α D cA z RX11 cX11_trade 7 (some .boolean) 2 43) (σ : St) : RX emI shM α D cA z 7 σ 42 [(0, .ref (α 0))] [] (f_X11_trade_42 σ) := by
  unfold f_X11_trade_42
  refine rx_aload_n C 0 dX11_trade_42 rfl rfl ?_
  refine rx_iconst C dX11_trade_43 ic_2 ?_
  refine rx_callVi C [.int (2 : Int32)] [] (m_X11_refuses z.l C.inj (2 : Int32) σ) mv_X11_refuses lk_X11_234 sm_0 rfl rfl rfl (Nat.le_of_ble_eq_true rfl) ⟨Nat.le_of_ble_eq_true rfl, Nat.le_of_ble_eq_true rfl⟩ dX11_trade_44 (fun q20 => ?_)
  refine rx_if_lt C (tgt := 54) dX11_trade_47 (by decide) (fun _ => ?_) (fun _ => ?_)
  · refine rx_iconst C dX11_trade_54 ic_0 ?_
    exact RX.loc (w_X11_trade_55 C (0 : Int32) q20.2) [] rfl
  · refine rx_iconst C dX11_trade_50 ic_1 ?_
    refine rx_goto C (tgt := 55) dX11_trade_51 (by decide) ?_
    exact RX.loc (w_X11_trade_55 C (1 : Int32) q20.2) [] rfl
set_option maxRecDepth 100000 in
set_option maxHeartbeats 4000000 in
theorem w_X11_trade_112 {α : Nat → Nat} {D : va_G} {cA : Nat → ClassId} {z : Cz} (C : CX shM α D cA z RX11 cX11_trade 7 (some .boolean) 2 43) (s0 : Int32) (σ : St) : RX emI shM α D cA z 7 σ 112 [] [.int s0] (f_X11_trade_112 s0 σ) := by
  unfold f_X11_trade_112
  exact rx_zret C dX11_trade_112
set_option maxRecDepth 100000 in
set_option maxHeartbeats 4000000 in
theorem w_X11_trade_99 {α : Nat → Nat} {D : va_G} {cA : Nat → ClassId} {z : Cz} (C : CX shM α D cA z RX11 cX11_trade 7 (some .boolean) 2 43) (σ : St) : RX emI shM α D cA z 7 σ 99 [(0, .ref (α 0))] [] (f_X11_trade_99 σ) := by
  unfold f_X11_trade_99
  refine rx_aload_n C 0 dX11_trade_99 rfl rfl ?_
  refine rx_iconst C dX11_trade_100 ic_2 ?_
  refine rx_callVi C [.int (2 : Int32)] [] (m_X11_refuses z.l C.inj (2 : Int32) σ) mv_X11_refuses lk_X11_234 sm_0 rfl rfl rfl (Nat.le_of_ble_eq_true rfl) ⟨Nat.le_of_ble_eq_true rfl, Nat.le_of_ble_eq_true rfl⟩ dX11_trade_101 (fun q26 => ?_)
  refine rx_if_lt C (tgt := 111) dX11_trade_104 (by decide) (fun _ => ?_) (fun _ => ?_)
  · refine rx_iconst C dX11_trade_111 ic_0 ?_
    exact RX.loc (w_X11_trade_112 C (0 : Int32) q26.2) [] rfl
  · refine rx_iconst C dX11_trade_107 ic_1 ?_
    refine rx_goto C (tgt := 112) dX11_trade_108 (by decide) ?_
    exact RX.loc (w_X11_trade_112 C (1 : Int32) q26.2) [] rfl
set_option maxRecDepth 100000 in
set_option maxHeartbeats 4000000 in
theorem w_X11_trade_e {α : Nat → Nat} {D : va_G} {cA : Nat → ClassId} {z : Cz} (C : CX shM α D cA z RX11 cX11_trade 7 (some .boolean) 2 43) (x1 : Int32) (x2 : Int32) (x3 : Int32) (x4 : Int32) (σ : St) : RX emI shM α D cA z 7 σ 0 [(0, .ref (α 0)), (1, .int x1), (2, .int x2), (3, .int x3), (4, .int x4)] [] (f_X11_trade x1 x2 x3 x4 σ) := by
  unfold f_X11_trade
  refine rx_aload_n C 0 dX11_trade_0 rfl rfl ?_
  refine rx_iload_n C 1 dX11_trade_1 rfl rfl ?_
  refine rx_callVi C [.int x1] [] (m_X11_isPerson z.l C.inj x1 σ) mv_X11_isPerson lk_X11_483 sm_0 rfl rfl rfl (Nat.le_of_ble_eq_true rfl) ⟨Nat.le_of_ble_eq_true rfl, Nat.le_of_ble_eq_true rfl⟩ dX11_trade_2 (fun q19 => ?_)
  refine rx_if_eq C (tgt := 42) dX11_trade_5 (by decide) (fun _ => ?_) (fun _ => ?_)
  · exact RX.loc (w_X11_trade_42 C q19.2) [0] rfl
  · refine rx_aload_n C 0 dX11_trade_8 rfl rfl ?_
    refine rx_iload_n C 3 dX11_trade_9 rfl rfl ?_
    refine rx_callVi C [.int x3] [] (m_X11_isPerson z.l C.inj x3 q19.2) mv_X11_isPerson lk_X11_483 sm_0 rfl rfl rfl (Nat.le_of_ble_eq_true rfl) ⟨Nat.le_of_ble_eq_true rfl, Nat.le_of_ble_eq_true rfl⟩ dX11_trade_10 (fun q21 => ?_)
    refine rx_if_eq C (tgt := 42) dX11_trade_13 (by decide) (fun _ => ?_) (fun _ => ?_)
    · exact RX.loc (w_X11_trade_42 C q21.2) [0] rfl
    · refine rx_iload_n C 1 dX11_trade_16 rfl rfl ?_
      refine rx_iload_n C 3 dX11_trade_17 rfl rfl ?_
      refine rx_icmp_eq C (tgt := 42) dX11_trade_18 (by decide) (fun _ => ?_) (fun _ => ?_)
      · exact RX.loc (w_X11_trade_42 C q21.2) [0] rfl
      · refine rx_iload_n C 2 dX11_trade_21 rfl rfl ?_
        refine rx_callSi C [.int x2] [] (m_X11_isLetterCode z.l C.inj x2 q21.2) ms_X11_isLetterCode lk_X11_464 rfl rfl (Nat.le_of_ble_eq_true rfl) ⟨Nat.le_of_ble_eq_true rfl, Nat.le_of_ble_eq_true rfl⟩ dX11_trade_22 (fun q22 => ?_)
        refine rx_if_eq C (tgt := 42) dX11_trade_25 (by decide) (fun _ => ?_) (fun _ => ?_)
        · exact RX.loc (w_X11_trade_42 C q22.2) [0] rfl
        · refine rx_iload C 4 dX11_trade_28 rfl ?_
          refine rx_callSi C [.int x4] [] (m_X11_isLetterCode z.l C.inj x4 q22.2) ms_X11_isLetterCode lk_X11_464 rfl rfl (Nat.le_of_ble_eq_true rfl) ⟨Nat.le_of_ble_eq_true rfl, Nat.le_of_ble_eq_true rfl⟩ dX11_trade_30 (fun q23 => ?_)
          refine rx_if_eq C (tgt := 42) dX11_trade_33 (by decide) (fun _ => ?_) (fun _ => ?_)
          · exact RX.loc (w_X11_trade_42 C q23.2) [0] rfl
          · refine rx_iload_n C 2 dX11_trade_36 rfl rfl ?_
            refine rx_iload C 4 dX11_trade_37 rfl ?_
            refine rx_icmp_ne C (tgt := 56) dX11_trade_39 (by decide) (fun _ => ?_) (fun _ => ?_)
            · exact RX.loc (w_X11_trade_42 C q23.2) [0] rfl
            · refine rx_iload_n C 2 dX11_trade_56 rfl rfl ?_
              refine rx_bipush C dX11_trade_57 bp_97 ?_
              refine rx_isub C dX11_trade_59 ?_
              refine rx_lti (fun w24 => ?_)
              refine rx_istore C [(5, .int w24), (0, .ref (α 0)), (1, .int x1), (2, .int x2), (3, .int x3), (4, .int x4)] dX11_trade_60 (by decide) rfl ?_
              refine rx_iload C 5 dX11_trade_62 rfl ?_
              refine rx_bipush C dX11_trade_64 bp_97 ?_
              refine rx_isub C dX11_trade_66 ?_
              refine rx_lti (fun w25 => ?_)
              refine rx_istore C [(6, .int w25), (5, .int w24), (0, .ref (α 0)), (1, .int x1), (2, .int x2), (3, .int x3), (4, .int x4)] dX11_trade_67 (by decide) rfl ?_
              refine rx_aload_n C 2 dX11_trade_69 rfl rfl ?_
              refine rx_getC C (k := 54) sm_0 fc_X11 (by decide) 36 rfl lk_X11_177 dX11_trade_70 ?_
              refine rx_bipush C dX11_trade_73 bp_26 ?_
              refine rx_iload_n C 3 dX11_trade_75 rfl rfl ?_
              refine rx_imul C dX11_trade_76 ?_
              refine rx_iload C 1 dX11_trade_77 rfl ?_
              refine rx_iadd C dX11_trade_79 ?_
              refine rx_iald C (n := 234) sm_36 dX11_trade_80 (fun _ => ?_)
              refine rx_if_eq C (tgt := 99) dX11_trade_81 (by decide) (fun _ => ?_) (fun _ => ?_)
              · exact RX.loc (w_X11_trade_99 C q23.2) [2] rfl
              · refine rx_aload_n C 2 dX11_trade_84 rfl rfl ?_
                refine rx_getC C (k := 54) sm_0 fc_X11 (by decide) 36 rfl lk_X11_177 dX11_trade_85 ?_
                refine rx_bipush C dX11_trade_88 bp_26 ?_
                refine rx_iload_n C 5 dX11_trade_90 rfl rfl ?_
                refine rx_imul C dX11_trade_91 ?_
                refine rx_iload C 0 dX11_trade_92 rfl ?_
                refine rx_iadd C dX11_trade_94 ?_
                refine rx_iald C (n := 234) sm_36 dX11_trade_95 (fun _ => ?_)
                refine rx_if_ne C (tgt := 113) dX11_trade_96 (by decide) (fun _ => ?_) (fun _ => ?_)
                · exact RX.loc (w_X11_trade_99 C q23.2) [2] rfl
                · refine rx_aload_n C 2 dX11_trade_113 rfl rfl ?_
                  refine rx_getC C (k := 54) sm_0 fc_X11 (by decide) 36 rfl lk_X11_177 dX11_trade_114 ?_
                  refine rx_bipush C dX11_trade_117 bp_26 ?_
                  refine rx_iload_n C 3 dX11_trade_119 rfl rfl ?_
                  refine rx_imul C dX11_trade_120 ?_
                  refine rx_iload C 1 dX11_trade_121 rfl ?_
                  refine rx_iadd C dX11_trade_123 ?_
                  refine rx_lti (fun w27 => ?_)
                  refine rx_dup2 C dX11_trade_124 rfl rfl ?_
                  refine rx_iald C (n := 234) sm_36 dX11_trade_125 (fun _ => ?_)
                  refine rx_iconst C dX11_trade_126 ic_1 ?_
                  refine rx_isub C dX11_trade_127 ?_
                  refine rx_iast C (n := 234) sm_36 dX11_trade_128 (fun _ => ?_)
                  refine rx_lts (fun σ28 => ?_)
                  refine rx_aload_n C 2 dX11_trade_129 rfl rfl ?_
                  refine rx_getC C (k := 54) sm_0 fc_X11 (by decide) 36 rfl lk_X11_177 dX11_trade_130 ?_
                  refine rx_bipush C dX11_trade_133 bp_26 ?_
                  refine rx_iload_n C 5 dX11_trade_135 rfl rfl ?_
                  refine rx_imul C dX11_trade_136 ?_
                  refine rx_iload C 1 dX11_trade_137 rfl ?_
                  refine rx_iadd C dX11_trade_139 ?_
                  refine rx_lti (fun w29 => ?_)
                  refine rx_dup2 C dX11_trade_140 rfl rfl ?_
                  refine rx_iald C (n := 234) sm_36 dX11_trade_141 (fun _ => ?_)
                  refine rx_iconst C dX11_trade_142 ic_1 ?_
                  refine rx_iadd C dX11_trade_143 ?_
                  refine rx_iast C (n := 234) sm_36 dX11_trade_144 (fun _ => ?_)
                  refine rx_lts (fun σ30 => ?_)
                  refine rx_aload_n C 2 dX11_trade_145 rfl rfl ?_
                  refine rx_getC C (k := 54) sm_0 fc_X11 (by decide) 36 rfl lk_X11_177 dX11_trade_146 ?_
                  refine rx_bipush C dX11_trade_149 bp_26 ?_
                  refine rx_iload_n C 5 dX11_trade_151 rfl rfl ?_
                  refine rx_imul C dX11_trade_152 ?_
                  refine rx_iload C 0 dX11_trade_153 rfl ?_
                  refine rx_iadd C dX11_trade_155 ?_
                  refine rx_lti (fun w31 => ?_)
                  refine rx_dup2 C dX11_trade_156 rfl rfl ?_
                  refine rx_iald C (n := 234) sm_36 dX11_trade_157 (fun _ => ?_)
                  refine rx_iconst C dX11_trade_158 ic_1 ?_
                  refine rx_isub C dX11_trade_159 ?_
                  refine rx_iast C (n := 234) sm_36 dX11_trade_160 (fun _ => ?_)
                  refine rx_lts (fun σ32 => ?_)
                  refine rx_aload_n C 2 dX11_trade_161 rfl rfl ?_
                  refine rx_getC C (k := 54) sm_0 fc_X11 (by decide) 36 rfl lk_X11_177 dX11_trade_162 ?_
                  refine rx_bipush C dX11_trade_165 bp_26 ?_
                  refine rx_iload_n C 3 dX11_trade_167 rfl rfl ?_
                  refine rx_imul C dX11_trade_168 ?_
                  refine rx_iload C 0 dX11_trade_169 rfl ?_
                  refine rx_iadd C dX11_trade_171 ?_
                  refine rx_lti (fun w33 => ?_)
                  refine rx_dup2 C dX11_trade_172 rfl rfl ?_
                  refine rx_iald C (n := 234) sm_36 dX11_trade_173 (fun _ => ?_)
                  refine rx_iconst C dX11_trade_174 ic_1 ?_
                  refine rx_iadd C dX11_trade_175 ?_
                  refine rx_iast C (n := 234) sm_36 dX11_trade_176 (fun _ => ?_)
                  refine rx_lts (fun σ34 => ?_)
                  refine rx_aload_n C 2 dX11_trade_177 rfl rfl ?_
                  refine rx_iconst C dX11_trade_178 ic_3 ?_
                  refine rx_iload_n C 3 dX11_trade_179 rfl rfl ?_
                  refine rx_iload_n C 5 dX11_trade_180 rfl rfl ?_
                  refine rx_aload_n C 2 dX11_trade_181 rfl rfl ?_
                  refine rx_iload C 1 dX11_trade_182 rfl ?_
                  refine rx_callVi C [.int w24] [.int x3, .int x1, .int (3 : Int32), .ref (α 0)] (m_X11_weight z.l C.inj w24 σ34) mv_X11_weight lk_X11_433 sm_0 rfl rfl rfl (Nat.le_of_ble_eq_true rfl) ⟨Nat.le_of_ble_eq_true rfl, Nat.le_of_ble_eq_true rfl⟩ dX11_trade_184 (fun q35 => ?_)
                  refine rx_callVv C [.int (3 : Int32), .int x1, .int x3, .int q35.1] [] (m_X11_notes z.l C.inj (3 : Int32) x1 x3 q35.1 q35.2) mv_X11_notes lk_X11_517 sm_0 rfl rfl rfl (Nat.le_of_ble_eq_true rfl) ⟨Nat.le_of_ble_eq_true rfl, Nat.le_of_ble_eq_true rfl⟩ dX11_trade_187 (fun q36 => ?_)
                  refine rx_iconst C dX11_trade_190 ic_1 ?_
                  exact rx_zretC C dX11_trade_191 rfl
theorem m_X11_trade (l : Launch) {α : Nat → Nat} {D : va_G} {cA : Nat → ClassId} (hin : inj shM.length α) (x1 : Int32) (x2 : Int32) (x3 : Int32) (x4 : Int32) (σ : St) : CT shM l yX11_trade cX11_trade 7 (some .boolean) 2 43 emI α D cA [.ref (α 0), .int x1, .int x2, .int x3, .int x4] σ (f_X11_trade x1 x2 x3 x4 σ) := ct_of rfl (Nat.le_of_ble_eq_true rfl) hin (fun z _ C => w_X11_trade_e C x1 x2 x3 x4 σ)
set_option maxRecDepth 100000 in
set_option maxHeartbeats 4000000 in
theorem w_X11_lend_33 {α : Nat → Nat} {D : va_G} {cA : Nat → ClassId} {z : Cz} (C : CX shM α D cA z RX11 cX11_lend 4 (some .int) 4 100) (σ : St) : RX emI shM α D cA z 4 σ 33 [(0, .ref (α 0))] [] (f_X11_lend_33 σ) := by
  unfold f_X11_lend_33
  refine rx_aload_n C 0 dX11_lend_33 rfl rfl ?_
  refine rx_iconst C dX11_lend_34 ic_3 ?_
  refine rx_callVi C [.int (3 : Int32)] [] (m_X11_refuses z.l C.inj (3 : Int32) σ) mv_X11_refuses lk_X11_234 sm_0 rfl rfl rfl (Nat.le_of_ble_eq_true rfl) ⟨Nat.le_of_ble_eq_true rfl, Nat.le_of_ble_eq_true rfl⟩ dX11_lend_35 (fun q20 => ?_)
  exact rx_iret C dX11_lend_38
set_option maxRecDepth 100000 in
set_option maxHeartbeats 4000000 in
theorem w_X11_lend_76 {α : Nat → Nat} {D : va_G} {cA : Nat → ClassId} {z : Cz} (C : CX shM α D cA z RX11 cX11_lend 4 (some .int) 4 100) (σ : St) : RX emI shM α D cA z 4 σ 76 [(0, .ref (α 0))] [] (f_X11_lend_76 σ) := by
  unfold f_X11_lend_76
  refine rx_aload_n C 0 dX11_lend_76 rfl rfl ?_
  refine rx_iconst C dX11_lend_77 ic_3 ?_
  refine rx_callVi C [.int (3 : Int32)] [] (m_X11_refuses z.l C.inj (3 : Int32) σ) mv_X11_refuses lk_X11_234 sm_0 rfl rfl rfl (Nat.le_of_ble_eq_true rfl) ⟨Nat.le_of_ble_eq_true rfl, Nat.le_of_ble_eq_true rfl⟩ dX11_lend_78 (fun q24 => ?_)
  exact rx_iret C dX11_lend_81
set_option maxRecDepth 100000 in
set_option maxHeartbeats 4000000 in
theorem w_X11_lend_e {α : Nat → Nat} {D : va_G} {cA : Nat → ClassId} {z : Cz} (C : CX shM α D cA z RX11 cX11_lend 4 (some .int) 4 100) (x1 : Int32) (x2 : Int32) (x3 : Int32) (σ : St) : RX emI shM α D cA z 4 σ 0 [(0, .ref (α 0)), (1, .int x1), (2, .int x2), (3, .int x3)] [] (f_X11_lend x1 x2 x3 σ) := by
  unfold f_X11_lend
  refine rx_aload_n C 0 dX11_lend_0 rfl rfl ?_
  refine rx_iload_n C 1 dX11_lend_1 rfl rfl ?_
  refine rx_callVi C [.int x1] [] (m_X11_isPerson z.l C.inj x1 σ) mv_X11_isPerson lk_X11_483 sm_0 rfl rfl rfl (Nat.le_of_ble_eq_true rfl) ⟨Nat.le_of_ble_eq_true rfl, Nat.le_of_ble_eq_true rfl⟩ dX11_lend_2 (fun q19 => ?_)
  refine rx_if_eq C (tgt := 33) dX11_lend_5 (by decide) (fun _ => ?_) (fun _ => ?_)
  · exact RX.loc (w_X11_lend_33 C q19.2) [0] rfl
  · refine rx_aload_n C 0 dX11_lend_8 rfl rfl ?_
    refine rx_iload_n C 2 dX11_lend_9 rfl rfl ?_
    refine rx_callVi C [.int x2] [] (m_X11_isPerson z.l C.inj x2 q19.2) mv_X11_isPerson lk_X11_483 sm_0 rfl rfl rfl (Nat.le_of_ble_eq_true rfl) ⟨Nat.le_of_ble_eq_true rfl, Nat.le_of_ble_eq_true rfl⟩ dX11_lend_10 (fun q21 => ?_)
    refine rx_if_eq C (tgt := 33) dX11_lend_13 (by decide) (fun _ => ?_) (fun _ => ?_)
    · exact RX.loc (w_X11_lend_33 C q21.2) [0] rfl
    · refine rx_aload_n C 0 dX11_lend_16 rfl rfl ?_
      refine rx_iload_n C 3 dX11_lend_17 rfl rfl ?_
      refine rx_callVi C [.int x3] [] (m_X11_isTitle z.l C.inj x3 q21.2) mv_X11_isTitle lk_X11_467 sm_0 rfl rfl rfl (Nat.le_of_ble_eq_true rfl) ⟨Nat.le_of_ble_eq_true rfl, Nat.le_of_ble_eq_true rfl⟩ dX11_lend_18 (fun q22 => ?_)
      refine rx_if_eq C (tgt := 33) dX11_lend_21 (by decide) (fun _ => ?_) (fun _ => ?_)
      · exact RX.loc (w_X11_lend_33 C q22.2) [0] rfl
      · refine rx_aload_n C 0 dX11_lend_24 rfl rfl ?_
        refine rx_getI C (k := 56) sm_0 fc_X11 (by decide) rfl lk_X11_183 dX11_lend_25 ?_
        refine rx_bipush C dX11_lend_28 bp_20 ?_
        refine rx_icmp_ne C (tgt := 39) dX11_lend_30 (by decide) (fun _ => ?_) (fun _ => ?_)
        · exact RX.loc (w_X11_lend_33 C q22.2) [0] rfl
        · refine rx_aload_n C 0 dX11_lend_39 rfl rfl ?_
          refine rx_iload_n C 1 dX11_lend_40 rfl rfl ?_
          refine rx_iload_n C 3 dX11_lend_41 rfl rfl ?_
          refine rx_callVi C [.int x1, .int x3] [] (m_X11_hasTitle z.l C.inj x1 x3 q22.2) mv_X11_hasTitle lk_X11_470 sm_0 rfl rfl rfl (Nat.le_of_ble_eq_true rfl) ⟨Nat.le_of_ble_eq_true rfl, Nat.le_of_ble_eq_true rfl⟩ dX11_lend_42 (fun q23 => ?_)
          refine rx_if_eq C (tgt := 76) dX11_lend_45 (by decide) (fun _ => ?_) (fun _ => ?_)
          · exact RX.loc (w_X11_lend_76 C q23.2) [0] rfl
          · refine rx_aload_n C 0 dX11_lend_48 rfl rfl ?_
            refine rx_iload_n C 2 dX11_lend_49 rfl rfl ?_
            refine rx_iload_n C 3 dX11_lend_50 rfl rfl ?_
            refine rx_callVi C [.int x2, .int x3] [] (m_X11_hasTitle z.l C.inj x2 x3 q23.2) mv_X11_hasTitle lk_X11_470 sm_0 rfl rfl rfl (Nat.le_of_ble_eq_true rfl) ⟨Nat.le_of_ble_eq_true rfl, Nat.le_of_ble_eq_true rfl⟩ dX11_lend_51 (fun q25 => ?_)
            refine rx_if_ne C (tgt := 76) dX11_lend_54 (by decide) (fun _ => ?_) (fun _ => ?_)
            · refine rx_aload_n C 0 dX11_lend_57 rfl rfl ?_
              refine rx_iload_n C 2 dX11_lend_58 rfl rfl ?_
              refine rx_callVi C [.int x2] [] (m_X11_loadOf z.l C.inj x2 q25.2) mv_X11_loadOf lk_X11_489 sm_0 rfl rfl rfl (Nat.le_of_ble_eq_true rfl) ⟨Nat.le_of_ble_eq_true rfl, Nat.le_of_ble_eq_true rfl⟩ dX11_lend_59 (fun q26 => ?_)
              refine rx_aload_n C 0 dX11_lend_62 rfl rfl ?_
              refine rx_iload_n C 3 dX11_lend_63 rfl rfl ?_
              refine rx_callVi C [.int x3] [.int q26.1] (m_X11_ouncesOf z.l C.inj x3 q26.2) mv_X11_ouncesOf lk_X11_439 sm_0 rfl rfl rfl (Nat.le_of_ble_eq_true rfl) ⟨Nat.le_of_ble_eq_true rfl, Nat.le_of_ble_eq_true rfl⟩ dX11_lend_64 (fun q27 => ?_)
              refine rx_iadd C dX11_lend_67 ?_
              refine rx_aload_n C 0 dX11_lend_68 rfl rfl ?_
              refine rx_iload_n C 2 dX11_lend_69 rfl rfl ?_
              refine rx_callVi C [.int x2] [.int (q26.1 + q27.1)] (m_X11_limitOf z.l C.inj x2 q27.2) mv_X11_limitOf lk_X11_486 sm_0 rfl rfl rfl (Nat.le_of_ble_eq_true rfl) ⟨Nat.le_of_ble_eq_true rfl, Nat.le_of_ble_eq_true rfl⟩ dX11_lend_70 (fun q28 => ?_)
              refine rx_icmp_le C (tgt := 82) dX11_lend_73 (by decide) (fun _ => ?_) (fun _ => ?_)
              · refine rx_aload_n C 0 dX11_lend_82 rfl rfl ?_
                refine rx_iload_n C 1 dX11_lend_83 rfl rfl ?_
                refine rx_iload_n C 3 dX11_lend_84 rfl rfl ?_
                refine rx_callVv C [.int x1, .int x3] [] (m_X11_goes z.l C.inj x1 x3 q28.2) mv_X11_goes lk_X11_527 sm_0 rfl rfl rfl (Nat.le_of_ble_eq_true rfl) ⟨Nat.le_of_ble_eq_true rfl, Nat.le_of_ble_eq_true rfl⟩ dX11_lend_85 (fun q29 => ?_)
                refine rx_aload_n C 0 dX11_lend_88 rfl rfl ?_
                refine rx_iload_n C 2 dX11_lend_89 rfl rfl ?_
                refine rx_iload_n C 3 dX11_lend_90 rfl rfl ?_
                refine rx_callVv C [.int x2, .int x3] [] (m_X11_comes z.l C.inj x2 x3 q29.2) mv_X11_comes lk_X11_514 sm_0 rfl rfl rfl (Nat.le_of_ble_eq_true rfl) ⟨Nat.le_of_ble_eq_true rfl, Nat.le_of_ble_eq_true rfl⟩ dX11_lend_91 (fun q30 => ?_)
                refine rx_aload_n C 0 dX11_lend_94 rfl rfl ?_
                refine rx_getC C (k := 57) sm_0 fc_X11 (by decide) 37 rfl lk_X11_186 dX11_lend_95 ?_
                refine rx_aload_n C 0 dX11_lend_98 rfl rfl ?_
                refine rx_getI C (k := 56) sm_0 fc_X11 (by decide) rfl lk_X11_183 dX11_lend_99 ?_
                refine rx_iload_n C 1 dX11_lend_102 rfl rfl ?_
                refine rx_iast C (n := 20) sm_37 dX11_lend_103 (fun _ => ?_)
                refine rx_lts (fun σ31 => ?_)
                refine rx_aload_n C 0 dX11_lend_104 rfl rfl ?_
                refine rx_getC C (k := 58) sm_0 fc_X11 (by decide) 38 rfl lk_X11_189 dX11_lend_105 ?_
                refine rx_aload_n C 0 dX11_lend_108 rfl rfl ?_
                refine rx_getI C (k := 56) sm_0 fc_X11 (by decide) rfl lk_X11_183 dX11_lend_109 ?_
                refine rx_iload_n C 2 dX11_lend_112 rfl rfl ?_
                refine rx_iast C (n := 20) sm_38 dX11_lend_113 (fun _ => ?_)
                refine rx_lts (fun σ32 => ?_)
                refine rx_aload_n C 0 dX11_lend_114 rfl rfl ?_
                refine rx_getC C (k := 59) sm_0 fc_X11 (by decide) 39 rfl lk_X11_192 dX11_lend_115 ?_
                refine rx_aload_n C 0 dX11_lend_118 rfl rfl ?_
                refine rx_getI C (k := 56) sm_0 fc_X11 (by decide) rfl lk_X11_183 dX11_lend_119 ?_
                refine rx_iload_n C 3 dX11_lend_122 rfl rfl ?_
                refine rx_iast C (n := 20) sm_39 dX11_lend_123 (fun _ => ?_)
                refine rx_lts (fun σ33 => ?_)
                refine rx_aload_n C 0 dX11_lend_124 rfl rfl ?_
                refine rx_dup C dX11_lend_125 rfl ?_
                refine rx_getI C (k := 56) sm_0 fc_X11 (by decide) rfl lk_X11_183 dX11_lend_126 ?_
                refine rx_iconst C dX11_lend_129 ic_1 ?_
                refine rx_iadd C dX11_lend_130 ?_
                refine rx_putI C (k := 56) sm_0 fc_X11 (by decide) rfl lk_X11_183 rfl ⟨rfl, rfl⟩ dX11_lend_131 ?_
                refine rx_lts (fun σ34 => ?_)
                refine rx_aload_n C 0 dX11_lend_134 rfl rfl ?_
                refine rx_iconst C dX11_lend_135 ic_4 ?_
                refine rx_iload_n C 1 dX11_lend_136 rfl rfl ?_
                refine rx_iload_n C 2 dX11_lend_137 rfl rfl ?_
                refine rx_aload_n C 0 dX11_lend_138 rfl rfl ?_
                refine rx_iload_n C 3 dX11_lend_139 rfl rfl ?_
                refine rx_callVi C [.int x3] [.int x2, .int x1, .int (4 : Int32), .ref (α 0)] (m_X11_ouncesOf z.l C.inj x3 σ34) mv_X11_ouncesOf lk_X11_439 sm_0 rfl rfl rfl (Nat.le_of_ble_eq_true rfl) ⟨Nat.le_of_ble_eq_true rfl, Nat.le_of_ble_eq_true rfl⟩ dX11_lend_140 (fun q35 => ?_)
                refine rx_callVv C [.int (4 : Int32), .int x1, .int x2, .int q35.1] [] (m_X11_notes z.l C.inj (4 : Int32) x1 x2 q35.1 q35.2) mv_X11_notes lk_X11_517 sm_0 rfl rfl rfl (Nat.le_of_ble_eq_true rfl) ⟨Nat.le_of_ble_eq_true rfl, Nat.le_of_ble_eq_true rfl⟩ dX11_lend_143 (fun q36 => ?_)
                refine rx_aload_n C 0 dX11_lend_146 rfl rfl ?_
                refine rx_getI C (k := 56) sm_0 fc_X11 (by decide) rfl lk_X11_183 dX11_lend_147 ?_
                exact rx_iret C dX11_lend_150
              · exact RX.loc (w_X11_lend_76 C q28.2) [0] rfl
            · exact RX.loc (w_X11_lend_76 C q25.2) [0] rfl
theorem m_X11_lend (l : Launch) {α : Nat → Nat} {D : va_G} {cA : Nat → ClassId} (hin : inj shM.length α) (x1 : Int32) (x2 : Int32) (x3 : Int32) (σ : St) : CT shM l yX11_lend cX11_lend 4 (some .int) 4 100 emI α D cA [.ref (α 0), .int x1, .int x2, .int x3] σ (f_X11_lend x1 x2 x3 σ) := ct_of rfl (Nat.le_of_ble_eq_true rfl) hin (fun z _ C => w_X11_lend_e C x1 x2 x3 σ)
set_option maxRecDepth 100000 in
set_option maxHeartbeats 4000000 in
theorem w_X11_canBack_43 {α : Nat → Nat} {D : va_G} {cA : Nat → ClassId} {z : Cz} (C : CX shM α D cA z RX11 cX11_canBack 2 (some .boolean) 1 22) (s0 : Int32) (σ : St) : RX emI shM α D cA z 2 σ 43 [] [.int s0] (f_X11_canBack_43 s0 σ) := by
  unfold f_X11_canBack_43
  exact rx_zret C dX11_canBack_43
set_option maxRecDepth 100000 in
set_option maxHeartbeats 4000000 in
theorem w_X11_canBack_42 {α : Nat → Nat} {D : va_G} {cA : Nat → ClassId} {z : Cz} (C : CX shM α D cA z RX11 cX11_canBack 2 (some .boolean) 1 22) (σ : St) : RX emI shM α D cA z 2 σ 42 [] [] (f_X11_canBack_42 σ) := by
  unfold f_X11_canBack_42
  refine rx_iconst C dX11_canBack_42 ic_0 ?_
  exact RX.loc (w_X11_canBack_43 C (0 : Int32) σ) [] rfl
set_option maxRecDepth 100000 in
set_option maxHeartbeats 4000000 in
theorem w_X11_canBack_e {α : Nat → Nat} {D : va_G} {cA : Nat → ClassId} {z : Cz} (C : CX shM α D cA z RX11 cX11_canBack 2 (some .boolean) 1 22) (x1 : Int32) (σ : St) : RX emI shM α D cA z 2 σ 0 [(0, .ref (α 0)), (1, .int x1)] [] (f_X11_canBack x1 σ) := by
  unfold f_X11_canBack
  refine rx_aload_n C 0 dX11_canBack_0 rfl rfl ?_
  refine rx_aload_n C 0 dX11_canBack_1 rfl rfl ?_
  refine rx_getC C (k := 58) sm_0 fc_X11 (by decide) 38 rfl lk_X11_189 dX11_canBack_2 ?_
  refine rx_iload_n C 1 dX11_canBack_5 rfl rfl ?_
  refine rx_iald C (n := 20) sm_38 dX11_canBack_6 (fun _ => ?_)
  refine rx_aload_n C 0 dX11_canBack_7 rfl rfl ?_
  refine rx_getC C (k := 59) sm_0 fc_X11 (by decide) 39 rfl lk_X11_192 dX11_canBack_8 ?_
  refine rx_iload_n C 1 dX11_canBack_11 rfl rfl ?_
  refine rx_iald C (n := 20) sm_39 dX11_canBack_12 (fun _ => ?_)
  refine rx_callVi C [.int (gI σ 38 (ix x1)), .int (gI σ 39 (ix x1))] [] (m_X11_hasTitle z.l C.inj (gI σ 38 (ix x1)) (gI σ 39 (ix x1)) σ) mv_X11_hasTitle lk_X11_470 sm_0 rfl rfl rfl (Nat.le_of_ble_eq_true rfl) ⟨Nat.le_of_ble_eq_true rfl, Nat.le_of_ble_eq_true rfl⟩ dX11_canBack_13 (fun q3 => ?_)
  refine rx_if_eq C (tgt := 42) dX11_canBack_16 (by decide) (fun _ => ?_) (fun _ => ?_)
  · exact RX.loc (w_X11_canBack_42 C q3.2) [] rfl
  · refine rx_aload_n C 0 dX11_canBack_19 rfl rfl ?_
    refine rx_aload_n C 0 dX11_canBack_20 rfl rfl ?_
    refine rx_getC C (k := 57) sm_0 fc_X11 (by decide) 37 rfl lk_X11_186 dX11_canBack_21 ?_
    refine rx_iload_n C 1 dX11_canBack_24 rfl rfl ?_
    refine rx_iald C (n := 20) sm_37 dX11_canBack_25 (fun _ => ?_)
    refine rx_aload_n C 0 dX11_canBack_26 rfl rfl ?_
    refine rx_getC C (k := 59) sm_0 fc_X11 (by decide) 39 rfl lk_X11_192 dX11_canBack_27 ?_
    refine rx_iload_n C 1 dX11_canBack_30 rfl rfl ?_
    refine rx_iald C (n := 20) sm_39 dX11_canBack_31 (fun _ => ?_)
    refine rx_callVi C [.int (gI q3.2 37 (ix x1)), .int (gI q3.2 39 (ix x1))] [] (m_X11_hasTitle z.l C.inj (gI q3.2 37 (ix x1)) (gI q3.2 39 (ix x1)) q3.2) mv_X11_hasTitle lk_X11_470 sm_0 rfl rfl rfl (Nat.le_of_ble_eq_true rfl) ⟨Nat.le_of_ble_eq_true rfl, Nat.le_of_ble_eq_true rfl⟩ dX11_canBack_32 (fun q4 => ?_)
    refine rx_if_ne C (tgt := 42) dX11_canBack_35 (by decide) (fun _ => ?_) (fun _ => ?_)
    · refine rx_iconst C dX11_canBack_38 ic_1 ?_
      refine rx_goto C (tgt := 43) dX11_canBack_39 (by decide) ?_
      exact RX.loc (w_X11_canBack_43 C (1 : Int32) q4.2) [] rfl
    · exact RX.loc (w_X11_canBack_42 C q4.2) [] rfl
theorem m_X11_canBack (l : Launch) {α : Nat → Nat} {D : va_G} {cA : Nat → ClassId} (hin : inj shM.length α) (x1 : Int32) (σ : St) : CT shM l yX11_canBack cX11_canBack 2 (some .boolean) 1 22 emI α D cA [.ref (α 0), .int x1] σ (f_X11_canBack x1 σ) := ct_of rfl (Nat.le_of_ble_eq_true rfl) hin (fun z _ C => w_X11_canBack_e C x1 σ)
set_option maxRecDepth 100000 in
set_option maxHeartbeats 4000000 in
theorem w_X11_giveBack_35 {α : Nat → Nat} {D : va_G} {cA : Nat → ClassId} {z : Cz} (C : CX shM α D cA z RX11 cX11_giveBack 6 (some .boolean) 2 45) (s0 : Int32) (σ : St) : RX emI shM α D cA z 6 σ 35 [] [.int s0] (f_X11_giveBack_35 s0 σ) := by
  unfold f_X11_giveBack_35
  exact rx_zret C dX11_giveBack_35
set_option maxRecDepth 100000 in
set_option maxHeartbeats 4000000 in
theorem w_X11_giveBack_22 {α : Nat → Nat} {D : va_G} {cA : Nat → ClassId} {z : Cz} (C : CX shM α D cA z RX11 cX11_giveBack 6 (some .boolean) 2 45) (σ : St) : RX emI shM α D cA z 6 σ 22 [(0, .ref (α 0))] [] (f_X11_giveBack_22 σ) := by
  unfold f_X11_giveBack_22
  refine rx_aload_n C 0 dX11_giveBack_22 rfl rfl ?_
  refine rx_iconst C dX11_giveBack_23 ic_3 ?_
  refine rx_callVi C [.int (3 : Int32)] [] (m_X11_refuses z.l C.inj (3 : Int32) σ) mv_X11_refuses lk_X11_234 sm_0 rfl rfl rfl (Nat.le_of_ble_eq_true rfl) ⟨Nat.le_of_ble_eq_true rfl, Nat.le_of_ble_eq_true rfl⟩ dX11_giveBack_24 (fun q16 => ?_)
  refine rx_if_lt C (tgt := 34) dX11_giveBack_27 (by decide) (fun _ => ?_) (fun _ => ?_)
  · refine rx_iconst C dX11_giveBack_34 ic_0 ?_
    exact RX.loc (w_X11_giveBack_35 C (0 : Int32) q16.2) [] rfl
  · refine rx_iconst C dX11_giveBack_30 ic_1 ?_
    refine rx_goto C (tgt := 35) dX11_giveBack_31 (by decide) ?_
    exact RX.loc (w_X11_giveBack_35 C (1 : Int32) q16.2) [] rfl
set_option maxRecDepth 100000 in
set_option maxHeartbeats 4000000 in
theorem w_X11_giveBack_85 {α : Nat → Nat} {D : va_G} {cA : Nat → ClassId} {z : Cz} (C : CX shM α D cA z RX11 cX11_giveBack 6 (some .boolean) 2 45) : ∀ (n : Nat) (x2 : Int32) (x3 : Int32) (x4 : Int32) (x5 : Int32) (σ : St), RX emI shM α D cA z 6 σ 85 [(0, .ref (α 0)), (2, .int x2), (3, .int x3), (4, .int x4), (5, .int x5)] [] (f_X11_giveBack_85 n x2 x3 x4 x5 σ) := by
  intro n
  induction n with
  | zero => intros; exact rx_none
  | succ n hk_85 =>
    intro x2 x3 x4 x5 σ
    rw [f_X11_giveBack_85.eq_2]
    refine rx_iload C 4 dX11_giveBack_85 rfl ?_
    refine rx_aload_n C 0 dX11_giveBack_87 rfl rfl ?_
    refine rx_getI C (k := 56) sm_0 fc_X11 (by decide) rfl lk_X11_183 dX11_giveBack_88 ?_
    refine rx_icmp_ge C (tgt := 148) dX11_giveBack_91 (by decide) (fun _ => ?_) (fun _ => ?_)
    · refine rx_aload_n C 0 dX11_giveBack_148 rfl rfl ?_
      refine rx_iconst C dX11_giveBack_149 ic_5 ?_
      refine rx_iload_n C 2 dX11_giveBack_150 rfl rfl ?_
      refine rx_iload_n C 1 dX11_giveBack_151 rfl rfl ?_
      refine rx_aload_n C 0 dX11_giveBack_152 rfl rfl ?_
      refine rx_iload C 3 dX11_giveBack_153 rfl ?_
      refine rx_callVi C [.int x4] [.int x2, .int x3, .int (5 : Int32), .ref (α 0)] (m_X11_ouncesOf z.l C.inj x4 σ) mv_X11_ouncesOf lk_X11_439 sm_0 rfl rfl rfl (Nat.le_of_ble_eq_true rfl) ⟨Nat.le_of_ble_eq_true rfl, Nat.le_of_ble_eq_true rfl⟩ dX11_giveBack_155 (fun q24 => ?_)
      refine rx_callVv C [.int (5 : Int32), .int x3, .int x2, .int q24.1] [] (m_X11_notes z.l C.inj (5 : Int32) x3 x2 q24.1 q24.2) mv_X11_notes lk_X11_517 sm_0 rfl rfl rfl (Nat.le_of_ble_eq_true rfl) ⟨Nat.le_of_ble_eq_true rfl, Nat.le_of_ble_eq_true rfl⟩ dX11_giveBack_158 (fun q25 => ?_)
      refine rx_iconst C dX11_giveBack_161 ic_1 ?_
      exact rx_zretC C dX11_giveBack_162 rfl
    · refine rx_aload_n C 0 dX11_giveBack_94 rfl rfl ?_
      refine rx_getC C (k := 57) sm_0 fc_X11 (by decide) 37 rfl lk_X11_186 dX11_giveBack_95 ?_
      refine rx_iload C 4 dX11_giveBack_98 rfl ?_
      refine rx_aload_n C 0 dX11_giveBack_100 rfl rfl ?_
      refine rx_getC C (k := 57) sm_0 fc_X11 (by decide) 37 rfl lk_X11_186 dX11_giveBack_101 ?_
      refine rx_iload C 4 dX11_giveBack_104 rfl ?_
      refine rx_iconst C dX11_giveBack_106 ic_1 ?_
      refine rx_iadd C dX11_giveBack_107 ?_
      refine rx_iald C (n := 20) sm_37 dX11_giveBack_108 (fun _ => ?_)
      refine rx_iast C (n := 20) sm_37 dX11_giveBack_109 (fun _ => ?_)
      refine rx_lts (fun σ26 => ?_)
      refine rx_aload_n C 0 dX11_giveBack_110 rfl rfl ?_
      refine rx_getC C (k := 58) sm_0 fc_X11 (by decide) 38 rfl lk_X11_189 dX11_giveBack_111 ?_
      refine rx_iload C 4 dX11_giveBack_114 rfl ?_
      refine rx_aload_n C 0 dX11_giveBack_116 rfl rfl ?_
      refine rx_getC C (k := 58) sm_0 fc_X11 (by decide) 38 rfl lk_X11_189 dX11_giveBack_117 ?_
      refine rx_iload C 4 dX11_giveBack_120 rfl ?_
      refine rx_iconst C dX11_giveBack_122 ic_1 ?_
      refine rx_iadd C dX11_giveBack_123 ?_
      refine rx_iald C (n := 20) sm_38 dX11_giveBack_124 (fun _ => ?_)
      refine rx_iast C (n := 20) sm_38 dX11_giveBack_125 (fun _ => ?_)
      refine rx_lts (fun σ27 => ?_)
      refine rx_aload_n C 0 dX11_giveBack_126 rfl rfl ?_
      refine rx_getC C (k := 59) sm_0 fc_X11 (by decide) 39 rfl lk_X11_192 dX11_giveBack_127 ?_
      refine rx_iload C 4 dX11_giveBack_130 rfl ?_
      refine rx_aload_n C 0 dX11_giveBack_132 rfl rfl ?_
      refine rx_getC C (k := 59) sm_0 fc_X11 (by decide) 39 rfl lk_X11_192 dX11_giveBack_133 ?_
      refine rx_iload C 4 dX11_giveBack_136 rfl ?_
      refine rx_iconst C dX11_giveBack_138 ic_1 ?_
      refine rx_iadd C dX11_giveBack_139 ?_
      refine rx_iald C (n := 20) sm_39 dX11_giveBack_140 (fun _ => ?_)
      refine rx_iast C (n := 20) sm_39 dX11_giveBack_141 (fun _ => ?_)
      refine rx_lts (fun σ28 => ?_)
      refine rx_iinc C (k0 := 4) (v := x5 + (1 : Int32)) [(5, .int (x5 + (1 : Int32))), (0, .ref (α 0)), (2, .int x2), (3, .int x3), (4, .int x4)] dX11_giveBack_142 rfl (congrArg _ ic_1) (by decide) rfl ?_
      refine rx_goto C (tgt := 85) dX11_giveBack_145 (by decide) ?_
      exact RX.loc (hk_85 x2 x3 x4 (x5 + (1 : Int32)) σ28) [1, 2, 3, 4, 0] rfl
set_option maxRecDepth 100000 in
set_option maxHeartbeats 4000000 in
theorem w_X11_giveBack_e {α : Nat → Nat} {D : va_G} {cA : Nat → ClassId} {z : Cz} (C : CX shM α D cA z RX11 cX11_giveBack 6 (some .boolean) 2 45) (x1 : Int32) (σ : St) : RX emI shM α D cA z 6 σ 0 [(0, .ref (α 0)), (1, .int x1)] [] (f_X11_giveBack x1 σ) := by
  unfold f_X11_giveBack
  refine rx_iload_n C 1 dX11_giveBack_0 rfl rfl ?_
  refine rx_iconst C dX11_giveBack_1 ic_0 ?_
  refine rx_aload_n C 0 dX11_giveBack_2 rfl rfl ?_
  refine rx_getI C (k := 56) sm_0 fc_X11 (by decide) rfl lk_X11_183 dX11_giveBack_3 ?_
  refine rx_iconst C dX11_giveBack_6 ic_1 ?_
  refine rx_isub C dX11_giveBack_7 ?_
  refine rx_callSi C [.int x1, .int (0 : Int32), .int ((gI σ 0 56) - (1 : Int32))] [] (m_X11_is z.l C.inj x1 (0 : Int32) ((gI σ 0 56) - (1 : Int32)) σ) ms_X11_is lk_X11_309 rfl rfl (Nat.le_of_ble_eq_true rfl) ⟨Nat.le_of_ble_eq_true rfl, Nat.le_of_ble_eq_true rfl⟩ dX11_giveBack_8 (fun q15 => ?_)
  refine rx_if_eq C (tgt := 22) dX11_giveBack_11 (by decide) (fun _ => ?_) (fun _ => ?_)
  · exact RX.loc (w_X11_giveBack_22 C q15.2) [0] rfl
  · refine rx_aload_n C 0 dX11_giveBack_14 rfl rfl ?_
    refine rx_iload_n C 1 dX11_giveBack_15 rfl rfl ?_
    refine rx_callVi C [.int x1] [] (m_X11_canBack z.l C.inj x1 q15.2) mv_X11_canBack lk_X11_539 sm_0 rfl rfl rfl (Nat.le_of_ble_eq_true rfl) ⟨Nat.le_of_ble_eq_true rfl, Nat.le_of_ble_eq_true rfl⟩ dX11_giveBack_16 (fun q17 => ?_)
    refine rx_if_ne C (tgt := 36) dX11_giveBack_19 (by decide) (fun _ => ?_) (fun _ => ?_)
    · exact RX.loc (w_X11_giveBack_22 C q17.2) [0] rfl
    · refine rx_aload_n C 0 dX11_giveBack_36 rfl rfl ?_
      refine rx_getC C (k := 57) sm_0 fc_X11 (by decide) 37 rfl lk_X11_186 dX11_giveBack_37 ?_
      refine rx_iload_n C 1 dX11_giveBack_40 rfl rfl ?_
      refine rx_iald C (n := 20) sm_37 dX11_giveBack_41 (fun _ => ?_)
      refine rx_lti (fun w18 => ?_)
      refine rx_istore_n C [(2, .int w18), (0, .ref (α 0)), (1, .int x1)] dX11_giveBack_42 rfl (by decide) rfl ?_
      refine rx_aload_n C 1 dX11_giveBack_43 rfl rfl ?_
      refine rx_getC C (k := 58) sm_0 fc_X11 (by decide) 38 rfl lk_X11_189 dX11_giveBack_44 ?_
      refine rx_iload_n C 2 dX11_giveBack_47 rfl rfl ?_
      refine rx_iald C (n := 20) sm_38 dX11_giveBack_48 (fun _ => ?_)
      refine rx_lti (fun w19 => ?_)
      refine rx_istore_n C [(3, .int w19), (2, .int w18), (0, .ref (α 0)), (1, .int x1)] dX11_giveBack_49 rfl (by decide) rfl ?_
      refine rx_aload_n C 2 dX11_giveBack_50 rfl rfl ?_
      refine rx_getC C (k := 59) sm_0 fc_X11 (by decide) 39 rfl lk_X11_192 dX11_giveBack_51 ?_
      refine rx_iload_n C 3 dX11_giveBack_54 rfl rfl ?_
      refine rx_iald C (n := 20) sm_39 dX11_giveBack_55 (fun _ => ?_)
      refine rx_lti (fun w20 => ?_)
      refine rx_istore C [(4, .int w20), (3, .int w19), (2, .int w18), (0, .ref (α 0)), (1, .int x1)] dX11_giveBack_56 (by decide) rfl ?_
      refine rx_aload_n C 3 dX11_giveBack_58 rfl rfl ?_
      refine rx_iload_n C 1 dX11_giveBack_59 rfl rfl ?_
      refine rx_iload C 0 dX11_giveBack_60 rfl ?_
      refine rx_callVv C [.int w19, .int w20] [] (m_X11_goes z.l C.inj w19 w20 q17.2) mv_X11_goes lk_X11_527 sm_0 rfl rfl rfl (Nat.le_of_ble_eq_true rfl) ⟨Nat.le_of_ble_eq_true rfl, Nat.le_of_ble_eq_true rfl⟩ dX11_giveBack_62 (fun q21 => ?_)
      refine rx_aload_n C 3 dX11_giveBack_65 rfl rfl ?_
      refine rx_iload_n C 2 dX11_giveBack_66 rfl rfl ?_
      refine rx_iload C 0 dX11_giveBack_67 rfl ?_
      refine rx_callVv C [.int w18, .int w20] [] (m_X11_comes z.l C.inj w18 w20 q21.2) mv_X11_comes lk_X11_514 sm_0 rfl rfl rfl (Nat.le_of_ble_eq_true rfl) ⟨Nat.le_of_ble_eq_true rfl, Nat.le_of_ble_eq_true rfl⟩ dX11_giveBack_69 (fun q22 => ?_)
      refine rx_aload_n C 3 dX11_giveBack_72 rfl rfl ?_
      refine rx_dup C dX11_giveBack_73 rfl ?_
      refine rx_getI C (k := 56) sm_0 fc_X11 (by decide) rfl lk_X11_183 dX11_giveBack_74 ?_
      refine rx_iconst C dX11_giveBack_77 ic_1 ?_
      refine rx_isub C dX11_giveBack_78 ?_
      refine rx_putI C (k := 56) sm_0 fc_X11 (by decide) rfl lk_X11_183 rfl ⟨rfl, rfl⟩ dX11_giveBack_79 ?_
      refine rx_lts (fun σ23 => ?_)
      refine rx_iload_n C 4 dX11_giveBack_82 rfl rfl ?_
      refine rx_istore C [(5, .int x1), (4, .int w20), (3, .int w19), (2, .int w18), (0, .ref (α 0)), (1, .int x1)] dX11_giveBack_83 (by decide) rfl ?_
      exact RX.loc (w_X11_giveBack_85 C FU w18 w19 w20 x1 σ23) [4, 3, 2, 1, 0] rfl
theorem m_X11_giveBack (l : Launch) {α : Nat → Nat} {D : va_G} {cA : Nat → ClassId} (hin : inj shM.length α) (x1 : Int32) (σ : St) : CT shM l yX11_giveBack cX11_giveBack 6 (some .boolean) 2 45 emI α D cA [.ref (α 0), .int x1] σ (f_X11_giveBack x1 σ) := ct_of rfl (Nat.le_of_ble_eq_true rfl) hin (fun z _ C => w_X11_giveBack_e C x1 σ)
