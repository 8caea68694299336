set_option maxRecDepth 100000 in
set_option maxHeartbeats 4000000 in
theorem w_X11_fault_24 {α : Nat → Nat} {D : va_G} {cA : Nat → ClassId} {z : Cz} (C : CX shM α D cA z RX11 cX11_fault 2 (some .int) 0 0) (s0 : Int32) (σ : St) : RX emI shM α D cA z 2 σ 24 [] [.int s0] (f_X11_fault_24 s0 σ) := by
  unfold f_X11_fault_24
  exact rx_iret C dX11_fault_24
set_option maxRecDepth 100000 in
set_option maxHeartbeats 4000000 in
theorem w_X11_fault_e {α : Nat → Nat} {D : va_G} {cA : Nat → ClassId} {z : Cz} (C : CX shM α D cA z RX11 cX11_fault 2 (some .int) 0 0) (x1 : Int32) (σ : St) : RX emI shM α D cA z 2 σ 0 [(0, .ref (α 0)), (1, .int x1)] [] (f_X11_fault x1 σ) := by
  unfold f_X11_fault
  refine rx_iload_n C 1 dX11_fault_0 rfl rfl ?_
  refine rx_if_ne C (tgt := 11) dX11_fault_1 (by decide) (fun _ => ?_) (fun _ => ?_)
  · refine rx_aload_n C 0 dX11_fault_4 rfl rfl ?_
    refine rx_getI C (k := 10) sm_0 fc_X11 (by decide) rfl lk_X11_42 dX11_fault_5 ?_
    refine rx_goto C (tgt := 24) dX11_fault_8 (by decide) ?_
    exact RX.loc (w_X11_fault_24 C (gI σ 0 10) σ) [] rfl
  · refine rx_iload_n C 1 dX11_fault_11 rfl rfl ?_
    refine rx_iconst C dX11_fault_12 ic_1 ?_
    refine rx_icmp_ne C (tgt := 23) dX11_fault_13 (by decide) (fun _ => ?_) (fun _ => ?_)
    · refine rx_aload_n C 0 dX11_fault_16 rfl rfl ?_
      refine rx_getI C (k := 11) sm_0 fc_X11 (by decide) rfl lk_X11_45 dX11_fault_17 ?_
      refine rx_goto C (tgt := 24) dX11_fault_20 (by decide) ?_
      exact RX.loc (w_X11_fault_24 C (gI σ 0 11) σ) [] rfl
    · refine rx_iconst C dX11_fault_23 ic_m1 ?_
      exact RX.loc (w_X11_fault_24 C (-1 : Int32) σ) [] rfl
theorem m_X11_fault (l : Launch) {α : Nat → Nat} {D : va_G} {cA : Nat → ClassId} (hin : inj shM.length α) (x1 : Int32) (σ : St) : CT shM l yX11_fault cX11_fault 2 (some .int) 0 0 emI α D cA [.ref (α 0), .int x1] σ (f_X11_fault x1 σ) := ct_of rfl (Nat.le_of_ble_eq_true rfl) hin (fun z _ C => w_X11_fault_e C x1 σ)
set_option maxRecDepth 100000 in
set_option maxHeartbeats 4000000 in
theorem w_X11_status_19 {α : Nat → Nat} {D : va_G} {cA : Nat → ClassId} {z : Cz} (C : CX shM α D cA z RX11 cX11_status 2 (some .int) 1 22) (s0 : Int32) (σ : St) : RX emI shM α D cA z 2 σ 19 [] [.int s0] (f_X11_status_19 s0 σ) := by
  unfold f_X11_status_19
  exact rx_iret C dX11_status_19
set_option maxRecDepth 100000 in
set_option maxHeartbeats 4000000 in
theorem w_X11_status_e {α : Nat → Nat} {D : va_G} {cA : Nat → ClassId} {z : Cz} (C : CX shM α D cA z RX11 cX11_status 2 (some .int) 1 22) (x1 : Int32) (σ : St) : RX emI shM α D cA z 2 σ 0 [(0, .ref (α 0)), (1, .int x1)] [] (f_X11_status x1 σ) := by
  unfold f_X11_status
  refine rx_iload_n C 1 dX11_status_0 rfl rfl ?_
  refine rx_iconst C dX11_status_1 ic_0 ?_
  refine rx_iconst C dX11_status_2 ic_5 ?_
  refine rx_callSi C [.int x1, .int (0 : Int32), .int (5 : Int32)] [] (m_X11_is z.l C.inj x1 (0 : Int32) (5 : Int32) σ) ms_X11_is lk_X11_309 rfl rfl (Nat.le_of_ble_eq_true rfl) ⟨Nat.le_of_ble_eq_true rfl, Nat.le_of_ble_eq_true rfl⟩ dX11_status_3 (fun q2 => ?_)
  refine rx_if_eq C (tgt := 18) dX11_status_6 (by decide) (fun _ => ?_) (fun _ => ?_)
  · refine rx_iconst C dX11_status_18 ic_m1 ?_
    exact RX.loc (w_X11_status_19 C (-1 : Int32) q2.2) [] rfl
  · refine rx_aload_n C 0 dX11_status_9 rfl rfl ?_
    refine rx_getC C (k := 49) sm_0 fc_X11 (by decide) 32 rfl lk_X11_162 dX11_status_10 ?_
    refine rx_iload_n C 1 dX11_status_13 rfl rfl ?_
    refine rx_iald C (n := 6) sm_32 dX11_status_14 (fun _ => ?_)
    refine rx_goto C (tgt := 19) dX11_status_15 (by decide) ?_
    exact RX.loc (w_X11_status_19 C (gI q2.2 32 (ix x1)) q2.2) [] rfl
theorem m_X11_status (l : Launch) {α : Nat → Nat} {D : va_G} {cA : Nat → ClassId} (hin : inj shM.length α) (x1 : Int32) (σ : St) : CT shM l yX11_status cX11_status 2 (some .int) 1 22 emI α D cA [.ref (α 0), .int x1] σ (f_X11_status x1 σ) := ct_of rfl (Nat.le_of_ble_eq_true rfl) hin (fun z _ C => w_X11_status_e C x1 σ)
set_option maxRecDepth 100000 in
set_option maxHeartbeats 4000000 in
theorem w_X11_bounded_29 {α : Nat → Nat} {D : va_G} {cA : Nat → ClassId} {z : Cz} (C : CX shM α D cA z RX11 cX11_bounded 2 (some .long) 0 0) (t0 : Int64) (σ : St) : RX emL shM α D cA z 2 σ 29 [] [.long t0] (f_X11_bounded_29 t0 σ) := by
  unfold f_X11_bounded_29
  exact rx_lret C dX11_bounded_29
set_option maxRecDepth 100000 in
set_option maxHeartbeats 4000000 in
theorem w_X11_bounded_e {α : Nat → Nat} {D : va_G} {cA : Nat → ClassId} {z : Cz} (C : CX shM α D cA z RX11 cX11_bounded 2 (some .long) 0 0) (y0 : Int64) (σ : St) : RX emL shM α D cA z 2 σ 0 [(0, .long y0)] [] (f_X11_bounded y0 σ) := by
  unfold f_X11_bounded
  refine rx_lload_n C 0 dX11_bounded_0 rfl rfl ?_
  refine rx_ldc2_w C lk_X11_417 dX11_bounded_1 ?_
  refine rx_lcmp C dX11_bounded_4 ?_
  refine rx_if_le C (tgt := 14) dX11_bounded_5 (by decide) (fun _ => ?_) (fun _ => ?_)
  · refine rx_lload_n C 0 dX11_bounded_14 rfl rfl ?_
    refine rx_ldc2_w C lk_X11_419 dX11_bounded_15 ?_
    refine rx_lcmp C dX11_bounded_18 ?_
    refine rx_if_ge C (tgt := 28) dX11_bounded_19 (by decide) (fun _ => ?_) (fun _ => ?_)
    · refine rx_lload_n C 0 dX11_bounded_28 rfl rfl ?_
      exact RX.loc (w_X11_bounded_29 C y0 σ) [] rfl
    · refine rx_ldc2_w C lk_X11_419 dX11_bounded_22 ?_
      refine rx_goto C (tgt := 29) dX11_bounded_25 (by decide) ?_
      exact RX.loc (w_X11_bounded_29 C (-1000000 : Int64) σ) [] rfl
  · refine rx_ldc2_w C lk_X11_417 dX11_bounded_8 ?_
    refine rx_goto C (tgt := 29) dX11_bounded_11 (by decide) ?_
    exact RX.loc (w_X11_bounded_29 C (1000000 : Int64) σ) [] rfl
theorem m_X11_bounded (l : Launch) {α : Nat → Nat} {D : va_G} {cA : Nat → ClassId} (hin : inj shM.length α) (y0 : Int64) (σ : St) : CT shM l yX11_bounded cX11_bounded 2 (some .long) 0 0 emL α D cA [.long y0] σ (f_X11_bounded y0 σ) := ct_of rfl (Nat.le_of_ble_eq_true rfl) hin (fun z _ C => w_X11_bounded_e C y0 σ)
set_option maxRecDepth 100000 in
set_option maxHeartbeats 4000000 in
theorem w_X11_over_55 {α : Nat → Nat} {D : va_G} {cA : Nat → ClassId} {z : Cz} (C : CX shM α D cA z RX11 cX11_over 6 (some .long) 0 0) (t0 : Int64) (σ : St) : RX emL shM α D cA z 6 σ 55 [] [.long t0] (f_X11_over_55 t0 σ) := by
  unfold f_X11_over_55
  exact rx_lret C dX11_over_55
set_option maxRecDepth 100000 in
set_option maxHeartbeats 4000000 in
theorem w_X11_over_53 {α : Nat → Nat} {D : va_G} {cA : Nat → ClassId} {z : Cz} (C : CX shM α D cA z RX11 cX11_over 6 (some .long) 0 0) (y4 : Int64) (σ : St) : RX emL shM α D cA z 6 σ 53 [(4, .long y4)] [] (f_X11_over_53 y4 σ) := by
  unfold f_X11_over_53
  refine rx_lload C 0 dX11_over_53 rfl ?_
  exact RX.loc (w_X11_over_55 C y4 σ) [] rfl
set_option maxRecDepth 100000 in
set_option maxHeartbeats 4000000 in
theorem w_X11_over_43 {α : Nat → Nat} {D : va_G} {cA : Nat → ClassId} {z : Cz} (C : CX shM α D cA z RX11 cX11_over 6 (some .long) 0 0) (y4 : Int64) (s1 : Int32) (s0 : Int32) (σ : St) : RX emL shM α D cA z 6 σ 43 [(4, .long y4)] [.int s1, .int s0] (f_X11_over_43 y4 s1 s0 σ) := by
  unfold f_X11_over_43
  refine rx_icmp_eq C (tgt := 53) dX11_over_43 (by decide) (fun _ => ?_) (fun _ => ?_)
  · exact RX.loc (w_X11_over_53 C y4 σ) [0] rfl
  · refine rx_lload C 0 dX11_over_46 rfl ?_
    refine rx_lconst C dX11_over_48 lc_1 ?_
    refine rx_lsub C dX11_over_49 ?_
    refine rx_goto C (tgt := 55) dX11_over_50 (by decide) ?_
    exact RX.loc (w_X11_over_55 C (y4 - (1 : Int64)) σ) [] rfl
set_option maxRecDepth 100000 in
set_option maxHeartbeats 4000000 in
theorem w_X11_over_32 {α : Nat → Nat} {D : va_G} {cA : Nat → ClassId} {z : Cz} (C : CX shM α D cA z RX11 cX11_over 6 (some .long) 0 0) (y2 : Int64) (y4 : Int64) (s0 : Int32) (σ : St) : RX emL shM α D cA z 6 σ 32 [(2, .long y2), (4, .long y4)] [.int s0] (f_X11_over_32 y2 y4 s0 σ) := by
  unfold f_X11_over_32
  refine rx_lload_n C 0 dX11_over_32 rfl rfl ?_
  refine rx_lconst C dX11_over_33 lc_0 ?_
  refine rx_lcmp C dX11_over_34 ?_
  refine rx_if_ge C (tgt := 42) dX11_over_35 (by decide) (fun _ => ?_) (fun _ => ?_)
  · refine rx_iconst C dX11_over_42 ic_0 ?_
    exact RX.loc (w_X11_over_43 C y4 (0 : Int32) s0 σ) [1] rfl
  · refine rx_iconst C dX11_over_38 ic_1 ?_
    refine rx_goto C (tgt := 43) dX11_over_39 (by decide) ?_
    exact RX.loc (w_X11_over_43 C y4 (1 : Int32) s0 σ) [1] rfl
set_option maxRecDepth 100000 in
set_option maxHeartbeats 4000000 in
theorem w_X11_over_e {α : Nat → Nat} {D : va_G} {cA : Nat → ClassId} {z : Cz} (C : CX shM α D cA z RX11 cX11_over 6 (some .long) 0 0) (y0 : Int64) (y2 : Int64) (σ : St) : RX emL shM α D cA z 6 σ 0 [(0, .long y0), (2, .long y2)] [] (f_X11_over y0 y2 σ) := by
  unfold f_X11_over
  refine rx_lload_n C 1 dX11_over_0 rfl rfl ?_
  refine rx_lconst C dX11_over_1 lc_0 ?_
  refine rx_lcmp C dX11_over_2 ?_
  refine rx_if_ne C (tgt := 8) dX11_over_3 (by decide) (fun _ => ?_) (fun _ => ?_)
  · refine rx_lconst C dX11_over_6 lc_0 ?_
    exact rx_lret C dX11_over_7
  · refine rx_lload_n C 0 dX11_over_8 rfl rfl ?_
    refine rx_lload_n C 1 dX11_over_9 rfl rfl ?_
    refine rx_ldiv C dX11_over_10 (fun _ => ?_)
    refine rx_ltl (fun w2 => ?_)
    refine rx_lstore C [(4, .long w2), (0, .long y0), (2, .long y2)] dX11_over_11 (by decide) rfl ?_
    refine rx_lload_n C 1 dX11_over_13 rfl rfl ?_
    refine rx_lload_n C 2 dX11_over_14 rfl rfl ?_
    refine rx_lrem C dX11_over_15 (fun _ => ?_)
    refine rx_lconst C dX11_over_16 lc_0 ?_
    refine rx_lcmp C dX11_over_17 ?_
    refine rx_if_eq C (tgt := 53) dX11_over_18 (by decide) (fun _ => ?_) (fun _ => ?_)
    · exact RX.loc (w_X11_over_53 C w2 σ) [0] rfl
    · refine rx_lload_n C 1 dX11_over_21 rfl rfl ?_
      refine rx_lconst C dX11_over_22 lc_0 ?_
      refine rx_lcmp C dX11_over_23 ?_
      refine rx_if_ge C (tgt := 31) dX11_over_24 (by decide) (fun _ => ?_) (fun _ => ?_)
      · refine rx_iconst C dX11_over_31 ic_0 ?_
        exact RX.loc (w_X11_over_32 C y2 w2 (0 : Int32) σ) [2, 0] rfl
      · refine rx_iconst C dX11_over_27 ic_1 ?_
        refine rx_goto C (tgt := 32) dX11_over_28 (by decide) ?_
        exact RX.loc (w_X11_over_32 C y2 w2 (1 : Int32) σ) [2, 0] rfl
theorem m_X11_over (l : Launch) {α : Nat → Nat} {D : va_G} {cA : Nat → ClassId} (hin : inj shM.length α) (y0 : Int64) (y2 : Int64) (σ : St) : CT shM l yX11_over cX11_over 6 (some .long) 0 0 emL α D cA [.long y0, .long y2] σ (f_X11_over y0 y2 σ) := ct_of rfl (Nat.le_of_ble_eq_true rfl) hin (fun z _ C => w_X11_over_e C y0 y2 σ)
set_option maxRecDepth 100000 in
set_option maxHeartbeats 4000000 in
theorem w_X11_made_106 {α : Nat → Nat} {D : va_G} {cA : Nat → ClassId} {z : Cz} (C : CX shM α D cA z RX11 cX11_made 5 (some .long) 1 25) (t0 : Int64) (σ : St) : RX emL shM α D cA z 5 σ 106 [] [.long t0] (f_X11_made_106 t0 σ) := by
  unfold f_X11_made_106
  exact rx_lret C dX11_made_106
set_option maxRecDepth 100000 in
set_option maxHeartbeats 4000000 in
theorem w_X11_made_118 {α : Nat → Nat} {D : va_G} {cA : Nat → ClassId} {z : Cz} (C : CX shM α D cA z RX11 cX11_made 5 (some .long) 1 25) (t0 : Int64) (σ : St) : RX emL shM α D cA z 5 σ 118 [] [.long t0] (f_X11_made_118 t0 σ) := by
  unfold f_X11_made_118
  exact rx_lret C dX11_made_118
set_option maxRecDepth 100000 in
set_option maxHeartbeats 4000000 in
theorem w_X11_made_130 {α : Nat → Nat} {D : va_G} {cA : Nat → ClassId} {z : Cz} (C : CX shM α D cA z RX11 cX11_made 5 (some .long) 1 25) (t0 : Int64) (σ : St) : RX emL shM α D cA z 5 σ 130 [] [.long t0] (f_X11_made_130 t0 σ) := by
  unfold f_X11_made_130
  exact rx_lret C dX11_made_130
set_option maxRecDepth 100000 in
set_option maxHeartbeats 4000000 in
theorem w_X11_made_142 {α : Nat → Nat} {D : va_G} {cA : Nat → ClassId} {z : Cz} (C : CX shM α D cA z RX11 cX11_made 5 (some .long) 1 25) (t0 : Int64) (σ : St) : RX emL shM α D cA z 5 σ 142 [] [.long t0] (f_X11_made_142 t0 σ) := by
  unfold f_X11_made_142
  exact rx_lret C dX11_made_142
set_option maxRecDepth 100000 in
set_option maxHeartbeats 4000000 in
theorem w_X11_made_154 {α : Nat → Nat} {D : va_G} {cA : Nat → ClassId} {z : Cz} (C : CX shM α D cA z RX11 cX11_made 5 (some .long) 1 25) (t0 : Int64) (σ : St) : RX emL shM α D cA z 5 σ 154 [] [.long t0] (f_X11_made_154 t0 σ) := by
  unfold f_X11_made_154
  exact rx_lret C dX11_made_154
set_option maxRecDepth 100000 in
set_option maxHeartbeats 4000000 in
theorem w_X11_made_166 {α : Nat → Nat} {D : va_G} {cA : Nat → ClassId} {z : Cz} (C : CX shM α D cA z RX11 cX11_made 5 (some .long) 1 25) (t0 : Int64) (σ : St) : RX emL shM α D cA z 5 σ 166 [] [.long t0] (f_X11_made_166 t0 σ) := by
  unfold f_X11_made_166
  exact rx_lret C dX11_made_166
set_option maxRecDepth 100000 in
set_option maxHeartbeats 4000000 in
theorem w_X11_made_184 {α : Nat → Nat} {D : va_G} {cA : Nat → ClassId} {z : Cz} (C : CX shM α D cA z RX11 cX11_made 5 (some .long) 1 25) (t0 : Int64) (σ : St) : RX emL shM α D cA z 5 σ 184 [] [.long t0] (f_X11_made_184 t0 σ) := by
  unfold f_X11_made_184
  exact rx_lret C dX11_made_184
set_option maxRecDepth 100000 in
set_option maxHeartbeats 4000000 in
theorem w_X11_made_e {α : Nat → Nat} {D : va_G} {cA : Nat → ClassId} {z : Cz} (C : CX shM α D cA z RX11 cX11_made 5 (some .long) 1 25) (x0 : Int32) (y1 : Int64) (y3 : Int64) (σ : St) : RX emL shM α D cA z 5 σ 0 [(0, .int x0), (1, .long y1), (3, .long y3)] [] (f_X11_made x0 y1 y3 σ) := by
  unfold f_X11_made
  refine rx_iload_n C 0 dX11_made_0 rfl rfl ?_
  refine rx_if (fun hs17 => ?_) (fun hs17 => ?_)
  · refine rx_tableIn C (tgt := 60) (10 : Int32) hs17 dX11_made_1 (by decide) (by decide) rfl (by decide) ?_
    refine rx_lload_n C 1 dX11_made_60 rfl rfl ?_
    refine rx_lload_n C 2 dX11_made_61 rfl rfl ?_
    refine rx_ladd C dX11_made_62 ?_
    refine rx_callSl C [.long (y1 + y3)] [] (m_X11_bounded z.l C.inj (y1 + y3) σ) ms_X11_bounded lk_X11_421 rfl rfl (Nat.le_of_ble_eq_true rfl) ⟨Nat.le_of_ble_eq_true rfl, Nat.le_of_ble_eq_true rfl⟩ dX11_made_63 (fun q18 => ?_)
    exact rx_lret C dX11_made_66
  refine rx_if (fun hs19 => ?_) (fun hs19 => ?_)
  · refine rx_tableIn C (tgt := 67) (11 : Int32) hs19 dX11_made_1 (by decide) (by decide) rfl (by decide) ?_
    refine rx_lload_n C 1 dX11_made_67 rfl rfl ?_
    refine rx_lload_n C 2 dX11_made_68 rfl rfl ?_
    refine rx_lsub C dX11_made_69 ?_
    refine rx_callSl C [.long (y1 - y3)] [] (m_X11_bounded z.l C.inj (y1 - y3) σ) ms_X11_bounded lk_X11_421 rfl rfl (Nat.le_of_ble_eq_true rfl) ⟨Nat.le_of_ble_eq_true rfl, Nat.le_of_ble_eq_true rfl⟩ dX11_made_70 (fun q20 => ?_)
    exact rx_lret C dX11_made_73
  refine rx_if (fun hs21 => ?_) (fun hs21 => ?_)
  · refine rx_tableIn C (tgt := 74) (12 : Int32) hs21 dX11_made_1 (by decide) (by decide) rfl (by decide) ?_
    refine rx_lload_n C 1 dX11_made_74 rfl rfl ?_
    refine rx_lload_n C 2 dX11_made_75 rfl rfl ?_
    refine rx_lmul C dX11_made_76 ?_
    refine rx_callSl C [.long (y1 * y3)] [] (m_X11_bounded z.l C.inj (y1 * y3) σ) ms_X11_bounded lk_X11_421 rfl rfl (Nat.le_of_ble_eq_true rfl) ⟨Nat.le_of_ble_eq_true rfl, Nat.le_of_ble_eq_true rfl⟩ dX11_made_77 (fun q22 => ?_)
    exact rx_lret C dX11_made_80
  refine rx_if (fun hs23 => ?_) (fun hs23 => ?_)
  · refine rx_tableIn C (tgt := 81) (13 : Int32) hs23 dX11_made_1 (by decide) (by decide) rfl (by decide) ?_
    refine rx_lload_n C 1 dX11_made_81 rfl rfl ?_
    refine rx_lload_n C 2 dX11_made_82 rfl rfl ?_
    refine rx_callSl C [.long y1, .long y3] [] (m_X11_over z.l C.inj y1 y3 σ) ms_X11_over lk_X11_425 rfl rfl (Nat.le_of_ble_eq_true rfl) ⟨Nat.le_of_ble_eq_true rfl, Nat.le_of_ble_eq_true rfl⟩ dX11_made_83 (fun q24 => ?_)
    exact rx_lret C dX11_made_86
  refine rx_if (fun hs25 => ?_) (fun hs25 => ?_)
  · refine rx_tableIn C (tgt := 87) (14 : Int32) hs25 dX11_made_1 (by decide) (by decide) rfl (by decide) ?_
    refine rx_lload_n C 2 dX11_made_87 rfl rfl ?_
    refine rx_lconst C dX11_made_88 lc_0 ?_
    refine rx_lcmp C dX11_made_89 ?_
    refine rx_if_ne C (tgt := 97) dX11_made_90 (by decide) (fun _ => ?_) (fun _ => ?_)
    · refine rx_lconst C dX11_made_93 lc_0 ?_
      refine rx_goto C (tgt := 106) dX11_made_94 (by decide) ?_
      exact RX.loc (w_X11_made_106 C (0 : Int64) σ) [] rfl
    · refine rx_lload_n C 1 dX11_made_97 rfl rfl ?_
      refine rx_lload_n C 2 dX11_made_98 rfl rfl ?_
      refine rx_lload_n C 1 dX11_made_99 rfl rfl ?_
      refine rx_lload_n C 2 dX11_made_100 rfl rfl ?_
      refine rx_callSl C [.long y1, .long y3] [.long y3, .long y1] (m_X11_over z.l C.inj y1 y3 σ) ms_X11_over lk_X11_425 rfl rfl (Nat.le_of_ble_eq_true rfl) ⟨Nat.le_of_ble_eq_true rfl, Nat.le_of_ble_eq_true rfl⟩ dX11_made_101 (fun q26 => ?_)
      refine rx_lmul C dX11_made_104 ?_
      refine rx_lsub C dX11_made_105 ?_
      exact RX.loc (w_X11_made_106 C (y1 - (y3 * q26.1)) q26.2) [] rfl
  refine rx_if (fun hs27 => ?_) (fun hs27 => ?_)
  · refine rx_tableIn C (tgt := 107) (15 : Int32) hs27 dX11_made_1 (by decide) (by decide) rfl (by decide) ?_
    refine rx_lload_n C 1 dX11_made_107 rfl rfl ?_
    refine rx_lload_n C 2 dX11_made_108 rfl rfl ?_
    refine rx_lcmp C dX11_made_109 ?_
    refine rx_if_ge C (tgt := 117) dX11_made_110 (by decide) (fun _ => ?_) (fun _ => ?_)
    · refine rx_lload_n C 2 dX11_made_117 rfl rfl ?_
      exact RX.loc (w_X11_made_118 C y3 σ) [] rfl
    · refine rx_lload_n C 1 dX11_made_113 rfl rfl ?_
      refine rx_goto C (tgt := 118) dX11_made_114 (by decide) ?_
      exact RX.loc (w_X11_made_118 C y1 σ) [] rfl
  refine rx_if (fun hs28 => ?_) (fun hs28 => ?_)
  · refine rx_tableIn C (tgt := 119) (16 : Int32) hs28 dX11_made_1 (by decide) (by decide) rfl (by decide) ?_
    refine rx_lload_n C 1 dX11_made_119 rfl rfl ?_
    refine rx_lload_n C 2 dX11_made_120 rfl rfl ?_
    refine rx_lcmp C dX11_made_121 ?_
    refine rx_if_le C (tgt := 129) dX11_made_122 (by decide) (fun _ => ?_) (fun _ => ?_)
    · refine rx_lload_n C 2 dX11_made_129 rfl rfl ?_
      exact RX.loc (w_X11_made_130 C y3 σ) [] rfl
    · refine rx_lload_n C 1 dX11_made_125 rfl rfl ?_
      refine rx_goto C (tgt := 130) dX11_made_126 (by decide) ?_
      exact RX.loc (w_X11_made_130 C y1 σ) [] rfl
  refine rx_if (fun hs29 => ?_) (fun hs29 => ?_)
  · refine rx_tableIn C (tgt := 131) (17 : Int32) hs29 dX11_made_1 (by decide) (by decide) rfl (by decide) ?_
    refine rx_lload_n C 1 dX11_made_131 rfl rfl ?_
    refine rx_lload_n C 2 dX11_made_132 rfl rfl ?_
    refine rx_lcmp C dX11_made_133 ?_
    refine rx_if_ge C (tgt := 141) dX11_made_134 (by decide) (fun _ => ?_) (fun _ => ?_)
    · refine rx_lconst C dX11_made_141 lc_0 ?_
      exact RX.loc (w_X11_made_142 C (0 : Int64) σ) [] rfl
    · refine rx_lconst C dX11_made_137 lc_1 ?_
      refine rx_goto C (tgt := 142) dX11_made_138 (by decide) ?_
      exact RX.loc (w_X11_made_142 C (1 : Int64) σ) [] rfl
  refine rx_if (fun hs30 => ?_) (fun hs30 => ?_)
  · refine rx_tableIn C (tgt := 143) (18 : Int32) hs30 dX11_made_1 (by decide) (by decide) rfl (by decide) ?_
    refine rx_lload_n C 1 dX11_made_143 rfl rfl ?_
    refine rx_lload_n C 2 dX11_made_144 rfl rfl ?_
    refine rx_lcmp C dX11_made_145 ?_
    refine rx_if_le C (tgt := 153) dX11_made_146 (by decide) (fun _ => ?_) (fun _ => ?_)
    · refine rx_lconst C dX11_made_153 lc_0 ?_
      exact RX.loc (w_X11_made_154 C (0 : Int64) σ) [] rfl
    · refine rx_lconst C dX11_made_149 lc_1 ?_
      refine rx_goto C (tgt := 154) dX11_made_150 (by decide) ?_
      exact RX.loc (w_X11_made_154 C (1 : Int64) σ) [] rfl
  refine rx_if (fun hs31 => ?_) (fun hs31 => ?_)
  · refine rx_tableIn C (tgt := 155) (19 : Int32) hs31 dX11_made_1 (by decide) (by decide) rfl (by decide) ?_
    refine rx_lload_n C 1 dX11_made_155 rfl rfl ?_
    refine rx_lload_n C 2 dX11_made_156 rfl rfl ?_
    refine rx_lcmp C dX11_made_157 ?_
    refine rx_if_ne C (tgt := 165) dX11_made_158 (by decide) (fun _ => ?_) (fun _ => ?_)
    · refine rx_lconst C dX11_made_161 lc_1 ?_
      refine rx_goto C (tgt := 166) dX11_made_162 (by decide) ?_
      exact RX.loc (w_X11_made_166 C (1 : Int64) σ) [] rfl
    · refine rx_lconst C dX11_made_165 lc_0 ?_
      exact RX.loc (w_X11_made_166 C (0 : Int64) σ) [] rfl
  refine rx_if (fun hs32 => ?_) (fun hs32 => ?_)
  · refine rx_tableIn C (tgt := 167) (20 : Int32) hs32 dX11_made_1 (by decide) (by decide) rfl (by decide) ?_
    refine rx_lload_n C 1 dX11_made_167 rfl rfl ?_
    refine rx_lload_n C 2 dX11_made_168 rfl rfl ?_
    refine rx_lmul C dX11_made_169 ?_
    exact rx_lret C dX11_made_170
  refine rx_tableOut C (tgt := 171) dX11_made_1 (by have := lv_neT (a := 10) hs17 (by decide); have := lv_neT (a := 11) hs19 (by decide); have := lv_neT (a := 12) hs21 (by decide); have := lv_neT (a := 13) hs23 (by decide); have := lv_neT (a := 14) hs25 (by decide); have := lv_neT (a := 15) hs27 (by decide); have := lv_neT (a := 16) hs28 (by decide); have := lv_neT (a := 17) hs29 (by decide); have := lv_neT (a := 18) hs30 (by decide); have := lv_neT (a := 19) hs31 (by decide); have := lv_neT (a := 20) hs32 (by decide); omega) (by decide) ?_
  refine rx_lload_n C 1 dX11_made_171 rfl rfl ?_
  refine rx_lload_n C 2 dX11_made_172 rfl rfl ?_
  refine rx_ladd C dX11_made_173 ?_
  refine rx_lconst C dX11_made_174 lc_0 ?_
  refine rx_lcmp C dX11_made_175 ?_
  refine rx_if_le C (tgt := 183) dX11_made_176 (by decide) (fun _ => ?_) (fun _ => ?_)
  · refine rx_lconst C dX11_made_183 lc_0 ?_
    exact RX.loc (w_X11_made_184 C (0 : Int64) σ) [] rfl
  · refine rx_lconst C dX11_made_179 lc_1 ?_
    refine rx_goto C (tgt := 184) dX11_made_180 (by decide) ?_
    exact RX.loc (w_X11_made_184 C (1 : Int64) σ) [] rfl
theorem m_X11_made (l : Launch) {α : Nat → Nat} {D : va_G} {cA : Nat → ClassId} (hin : inj shM.length α) (x0 : Int32) (y1 : Int64) (y3 : Int64) (σ : St) : CT shM l yX11_made cX11_made 5 (some .long) 1 25 emL α D cA [.int x0, .long y1, .long y3] σ (f_X11_made x0 y1 y3 σ) := ct_of rfl (Nat.le_of_ble_eq_true rfl) hin (fun z _ C => w_X11_made_e C x0 y1 y3 σ)
set_option maxRecDepth 100000 in
set_option maxHeartbeats 4000000 in
theorem w_X11_works_150 {α : Nat → Nat} {D : va_G} {cA : Nat → ClassId} {z : Cz} (C : CX shM α D cA z RX11 cX11_works 6 (some .long) 2 49) (k_14 : Int32 → Int32 → Int32 → St → Option (Int64 × St)) (hk_14 : ∀ (x2 : Int32) (x3 : Int32) (x4 : Int32) (σ : St), RX emL shM α D cA z 6 σ 14 [(0, .ref (α 0)), (2, .int x2), (3, .int x3), (4, .int x4)] [] (k_14 x2 x3 x4 σ)) (x2 : Int32) (x3 : Int32) (x4 : Int32) (σ : St) : RX emL shM α D cA z 6 σ 150 [(0, .ref (α 0)), (2, .int x2), (3, .int x3), (4, .int x4)] [] (f_X11_works_150 k_14 x2 x3 x4 σ) := by
  unfold f_X11_works_150
  refine rx_iinc C (k0 := 3) (v := x4 + (1 : Int32)) [(4, .int (x4 + (1 : Int32))), (0, .ref (α 0)), (2, .int x2), (3, .int x3)] dX11_works_150 rfl (congrArg _ ic_1) (by decide) rfl ?_
  refine rx_goto C (tgt := 14) dX11_works_153 (by decide) ?_
  exact RX.loc (hk_14 x2 x3 (x4 + (1 : Int32)) σ) [1, 2, 3, 0] rfl
set_option maxRecDepth 100000 in
set_option maxHeartbeats 4000000 in
theorem w_X11_works_85 {α : Nat → Nat} {D : va_G} {cA : Nat → ClassId} {z : Cz} (C : CX shM α D cA z RX11 cX11_works 6 (some .long) 2 49) (k_14 : Int32 → Int32 → Int32 → St → Option (Int64 × St)) (hk_14 : ∀ (x2 : Int32) (x3 : Int32) (x4 : Int32) (σ : St), RX emL shM α D cA z 6 σ 14 [(0, .ref (α 0)), (2, .int x2), (3, .int x3), (4, .int x4)] [] (k_14 x2 x3 x4 σ)) (x2 : Int32) (x3 : Int32) (x4 : Int32) (t2 : Int64) (s1 : Int32) (σ : St) : RX emL shM α D cA z 6 σ 85 [(0, .ref (α 0)), (2, .int x2), (3, .int x3), (4, .int x4)] [.long t2, .int s1, .ref (α 33)] (f_X11_works_85 k_14 x2 x3 x4 t2 s1 σ) := by
  unfold f_X11_works_85
  refine rx_last C (n := 1650) sm_33 dX11_works_85 (fun _ => ?_)
  refine rx_lts (fun σ12 => ?_)
  refine rx_iinc C (k0 := 2) (v := x3 + (1 : Int32)) [(3, .int (x3 + (1 : Int32))), (0, .ref (α 0)), (2, .int x2), (4, .int x4)] dX11_works_86 rfl (congrArg _ ic_1) (by decide) rfl ?_
  refine rx_goto C (tgt := 150) dX11_works_89 (by decide) ?_
  exact RX.loc (w_X11_works_150 C k_14 hk_14 x2 (x3 + (1 : Int32)) x4 σ12) [1, 2, 0, 3] rfl
set_option maxRecDepth 100000 in
set_option maxHeartbeats 4000000 in
theorem w_X11_works_14 {α : Nat → Nat} {D : va_G} {cA : Nat → ClassId} {z : Cz} (C : CX shM α D cA z RX11 cX11_works 6 (some .long) 2 49) : ∀ (n : Nat) (x2 : Int32) (x3 : Int32) (x4 : Int32) (σ : St), RX emL shM α D cA z 6 σ 14 [(0, .ref (α 0)), (2, .int x2), (3, .int x3), (4, .int x4)] [] (f_X11_works_14 n x2 x3 x4 σ) := by
  intro n
  induction n with
  | zero => intros; exact rx_none
  | succ n hk_14 =>
    intro x2 x3 x4 σ
    rw [f_X11_works_14.eq_2]
    refine rx_iload C 3 dX11_works_14 rfl ?_
    refine rx_sipush C dX11_works_16 sp_1600 ?_
    refine rx_aload_n C 0 dX11_works_19 rfl rfl ?_
    refine rx_getI C (k := 12) sm_0 fc_X11 (by decide) rfl lk_X11_48 dX11_works_20 ?_
    refine rx_imul C dX11_works_23 ?_
    refine rx_iload_n C 1 dX11_works_24 rfl rfl ?_
    refine rx_iadd C dX11_works_25 ?_
    refine rx_icmp_ge C (tgt := 156) dX11_works_26 (by decide) (fun _ => ?_) (fun _ => ?_)
    · refine rx_aload_n C 0 dX11_works_156 rfl rfl ?_
      refine rx_getC C (k := 50) sm_0 fc_X11 (by decide) 33 rfl lk_X11_165 dX11_works_157 ?_
      refine rx_iconst C dX11_works_160 ic_0 ?_
      refine rx_lald C (n := 1650) sm_33 dX11_works_161 (fun _ => ?_)
      exact rx_lret C dX11_works_162
    · refine rx_aload_n C 0 dX11_works_29 rfl rfl ?_
      refine rx_getC C (k := 35) sm_0 fc_X11 (by decide) 24 rfl lk_X11_118 dX11_works_30 ?_
      refine rx_iload C 3 dX11_works_33 rfl ?_
      refine rx_iald C (n := 3200) sm_24 dX11_works_35 (fun _ => ?_)
      refine rx_lti (fun w8 => ?_)
      refine rx_istore C [(5, .int w8), (0, .ref (α 0)), (2, .int x2), (3, .int x3), (4, .int x4)] dX11_works_36 (by decide) rfl ?_
      refine rx_iload C 0 dX11_works_38 rfl ?_
      refine rx_bipush C dX11_works_40 bp_9 ?_
      refine rx_icmp_gt C (tgt := 92) dX11_works_42 (by decide) (fun _ => ?_) (fun _ => ?_)
      · refine rx_iload C 0 dX11_works_92 rfl ?_
        refine rx_bipush C dX11_works_94 bp_22 ?_
        refine rx_icmp_ne C (tgt := 120) dX11_works_96 (by decide) (fun _ => ?_) (fun _ => ?_)
        · refine rx_aload_n C 1 dX11_works_99 rfl rfl ?_
          refine rx_getC C (k := 50) sm_0 fc_X11 (by decide) 33 rfl lk_X11_165 dX11_works_100 ?_
          refine rx_iload_n C 3 dX11_works_103 rfl rfl ?_
          refine rx_iconst C dX11_works_104 ic_1 ?_
          refine rx_isub C dX11_works_105 ?_
          refine rx_lconst C dX11_works_106 lc_1 ?_
          refine rx_aload_n C 1 dX11_works_107 rfl rfl ?_
          refine rx_getC C (k := 50) sm_0 fc_X11 (by decide) 33 rfl lk_X11_165 dX11_works_108 ?_
          refine rx_iload_n C 3 dX11_works_111 rfl rfl ?_
          refine rx_iconst C dX11_works_112 ic_1 ?_
          refine rx_isub C dX11_works_113 ?_
          refine rx_lald C (n := 1650) sm_33 dX11_works_114 (fun _ => ?_)
          refine rx_lsub C dX11_works_115 ?_
          refine rx_last C (n := 1650) sm_33 dX11_works_116 (fun _ => ?_)
          refine rx_lts (fun σ9 => ?_)
          refine rx_goto C (tgt := 150) dX11_works_117 (by decide) ?_
          exact RX.loc (w_X11_works_150 C (f_X11_works_14 n) hk_14 x2 x3 x4 σ9) [1, 2, 3, 4] rfl
        · refine rx_iinc C (k0 := 3) (v := x3 + (-1 : Int32)) [(3, .int (x3 + (-1 : Int32))), (5, .int w8), (0, .ref (α 0)), (2, .int x2), (4, .int x4)] dX11_works_120 rfl (congrArg _ ic_m1) (by decide) rfl ?_
          refine rx_aload_n C 2 dX11_works_123 rfl rfl ?_
          refine rx_getC C (k := 50) sm_0 fc_X11 (by decide) 33 rfl lk_X11_165 dX11_works_124 ?_
          refine rx_iload_n C 0 dX11_works_127 rfl rfl ?_
          refine rx_iconst C dX11_works_128 ic_1 ?_
          refine rx_isub C dX11_works_129 ?_
          refine rx_iload C 1 dX11_works_130 rfl ?_
          refine rx_aload_n C 2 dX11_works_132 rfl rfl ?_
          refine rx_getC C (k := 50) sm_0 fc_X11 (by decide) 33 rfl lk_X11_165 dX11_works_133 ?_
          refine rx_iload_n C 0 dX11_works_136 rfl rfl ?_
          refine rx_iconst C dX11_works_137 ic_1 ?_
          refine rx_isub C dX11_works_138 ?_
          refine rx_lald C (n := 1650) sm_33 dX11_works_139 (fun _ => ?_)
          refine rx_aload_n C 2 dX11_works_140 rfl rfl ?_
          refine rx_getC C (k := 50) sm_0 fc_X11 (by decide) 33 rfl lk_X11_165 dX11_works_141 ?_
          refine rx_iload_n C 0 dX11_works_144 rfl rfl ?_
          refine rx_lald C (n := 1650) sm_33 dX11_works_145 (fun _ => ?_)
          refine rx_callSl C [.int w8, .long (gL σ 33 (ix ((x3 + (-1 : Int32)) - (1 : Int32)))), .long (gL σ 33 (ix (x3 + (-1 : Int32))))] [.int ((x3 + (-1 : Int32)) - (1 : Int32)), .ref (α 33)] (m_X11_made z.l C.inj w8 (gL σ 33 (ix ((x3 + (-1 : Int32)) - (1 : Int32)))) (gL σ 33 (ix (x3 + (-1 : Int32)))) σ) ms_X11_made lk_X11_429 rfl rfl (Nat.le_of_ble_eq_true rfl) ⟨Nat.le_of_ble_eq_true rfl, Nat.le_of_ble_eq_true rfl⟩ dX11_works_146 (fun q10 => ?_)
          refine rx_last C (n := 1650) sm_33 dX11_works_149 (fun _ => ?_)
          refine rx_lts (fun σ11 => ?_)
          exact RX.loc (w_X11_works_150 C (f_X11_works_14 n) hk_14 x2 (x3 + (-1 : Int32)) x4 σ11) [2, 3, 0, 4] rfl
      · refine rx_aload_n C 1 dX11_works_45 rfl rfl ?_
        refine rx_getC C (k := 50) sm_0 fc_X11 (by decide) 33 rfl lk_X11_165 dX11_works_46 ?_
        refine rx_iload_n C 3 dX11_works_49 rfl rfl ?_
        refine rx_iload C 0 dX11_works_50 rfl ?_
        refine rx_if_ne C (tgt := 66) dX11_works_52 (by decide) (fun _ => ?_) (fun _ => ?_)
        · refine rx_aload_n C 1 dX11_works_55 rfl rfl ?_
          refine rx_getC C (k := 36) sm_0 fc_X11 (by decide) 25 rfl lk_X11_121 dX11_works_56 ?_
          refine rx_iload C 4 dX11_works_59 rfl ?_
          refine rx_iald C (n := 3200) sm_25 dX11_works_61 (fun _ => ?_)
          refine rx_i2l C dX11_works_62 ?_
          refine rx_goto C (tgt := 85) dX11_works_63 (by decide) ?_
          exact RX.loc (w_X11_works_85 C (f_X11_works_14 n) hk_14 x2 x3 x4 ((gI σ 25 (ix x4)).toInt64) x3 σ) [1, 2, 3, 4] rfl
        · refine rx_iload C 0 dX11_works_66 rfl ?_
          refine rx_bipush C dX11_works_68 bp_9 ?_
          refine rx_icmp_ne C (tgt := 77) dX11_works_70 (by decide) (fun _ => ?_) (fun _ => ?_)
          · refine rx_lconst C dX11_works_73 lc_1 ?_
            refine rx_goto C (tgt := 85) dX11_works_74 (by decide) ?_
            exact RX.loc (w_X11_works_85 C (f_X11_works_14 n) hk_14 x2 x3 x4 (1 : Int64) x3 σ) [1, 2, 3, 4] rfl
          · refine rx_aload_n C 1 dX11_works_77 rfl rfl ?_
            refine rx_getC C (k := 51) sm_0 fc_X11 (by decide) 34 rfl lk_X11_168 dX11_works_78 ?_
            refine rx_iload C 0 dX11_works_81 rfl ?_
            refine rx_iald C (n := 10) sm_34 dX11_works_83 (fun _ => ?_)
            refine rx_i2l C dX11_works_84 ?_
            exact RX.loc (w_X11_works_85 C (f_X11_works_14 n) hk_14 x2 x3 x4 ((gI σ 34 (ix w8)).toInt64) x3 σ) [1, 2, 3, 4] rfl
set_option maxRecDepth 100000 in
set_option maxHeartbeats 4000000 in
theorem w_X11_works_e {α : Nat → Nat} {D : va_G} {cA : Nat → ClassId} {z : Cz} (C : CX shM α D cA z RX11 cX11_works 6 (some .long) 2 49) (x1 : Int32) (x2 : Int32) (σ : St) : RX emL shM α D cA z 6 σ 0 [(0, .ref (α 0)), (1, .int x1), (2, .int x2)] [] (f_X11_works x1 x2 σ) := by
  unfold f_X11_works
  refine rx_iconst C dX11_works_0 ic_0 ?_
  refine rx_istore_n C [(3, .int (0 : Int32)), (0, .ref (α 0)), (1, .int x1), (2, .int x2)] dX11_works_1 rfl (by decide) rfl ?_
  refine rx_sipush C dX11_works_2 sp_1600 ?_
  refine rx_aload_n C 1 dX11_works_5 rfl rfl ?_
  refine rx_getI C (k := 12) sm_0 fc_X11 (by decide) rfl lk_X11_48 dX11_works_6 ?_
  refine rx_imul C dX11_works_9 ?_
  refine rx_iload_n C 2 dX11_works_10 rfl rfl ?_
  refine rx_iadd C dX11_works_11 ?_
  refine rx_lti (fun w7 => ?_)
  refine rx_istore C [(4, .int w7), (3, .int (0 : Int32)), (0, .ref (α 0)), (1, .int x1), (2, .int x2)] dX11_works_12 (by decide) rfl ?_
  exact RX.loc (w_X11_works_14 C FU x2 (0 : Int32) w7 σ) [2, 4, 1, 0] rfl
theorem m_X11_works (l : Launch) {α : Nat → Nat} {D : va_G} {cA : Nat → ClassId} (hin : inj shM.length α) (x1 : Int32) (x2 : Int32) (σ : St) : CT shM l yX11_works cX11_works 6 (some .long) 2 49 emL α D cA [.ref (α 0), .int x1, .int x2] σ (f_X11_works x1 x2 σ) := ct_of rfl (Nat.le_of_ble_eq_true rfl) hin (fun z _ C => w_X11_works_e C x1 x2 σ)
set_option maxRecDepth 100000 in
set_option maxHeartbeats 4000000 in
theorem w_X11_isPerson_e {α : Nat → Nat} {D : va_G} {cA : Nat → ClassId} {z : Cz} (C : CX shM α D cA z RX11 cX11_isPerson 2 (some .boolean) 1 22) (x1 : Int32) (σ : St) : RX emI shM α D cA z 2 σ 0 [(0, .ref (α 0)), (1, .int x1)] [] (f_X11_isPerson x1 σ) := by
  unfold f_X11_isPerson
  refine rx_iload_n C 1 dX11_isPerson_0 rfl rfl ?_
  refine rx_iconst C dX11_isPerson_1 ic_0 ?_
  refine rx_aload_n C 0 dX11_isPerson_2 rfl rfl ?_
  refine rx_getC C (k := 14) sm_0 fc_X11 (by decide) 3 rfl lk_X11_54 dX11_isPerson_3 ?_
  refine rx_aload_n C 0 dX11_isPerson_6 rfl rfl ?_
  refine rx_getI C (k := 12) sm_0 fc_X11 (by decide) rfl lk_X11_48 dX11_isPerson_7 ?_
  refine rx_iald C (n := 2) sm_3 dX11_isPerson_10 (fun _ => ?_)
  refine rx_iconst C dX11_isPerson_11 ic_1 ?_
  refine rx_isub C dX11_isPerson_12 ?_
  refine rx_callSi C [.int x1, .int (0 : Int32), .int ((gI σ 3 (ix (gI σ 0 12))) - (1 : Int32))] [] (m_X11_is z.l C.inj x1 (0 : Int32) ((gI σ 3 (ix (gI σ 0 12))) - (1 : Int32)) σ) ms_X11_is lk_X11_309 rfl rfl (Nat.le_of_ble_eq_true rfl) ⟨Nat.le_of_ble_eq_true rfl, Nat.le_of_ble_eq_true rfl⟩ dX11_isPerson_13 (fun q2 => ?_)
  exact rx_zret C dX11_isPerson_16
theorem m_X11_isPerson (l : Launch) {α : Nat → Nat} {D : va_G} {cA : Nat → ClassId} (hin : inj shM.length α) (x1 : Int32) (σ : St) : CT shM l yX11_isPerson cX11_isPerson 2 (some .boolean) 1 22 emI α D cA [.ref (α 0), .int x1] σ (f_X11_isPerson x1 σ) := ct_of rfl (Nat.le_of_ble_eq_true rfl) hin (fun z _ C => w_X11_isPerson_e C x1 σ)
set_option maxRecDepth 100000 in
set_option maxHeartbeats 4000000 in
theorem w_X11_isTitle_e {α : Nat → Nat} {D : va_G} {cA : Nat → ClassId} {z : Cz} (C : CX shM α D cA z RX11 cX11_isTitle 2 (some .boolean) 1 22) (x1 : Int32) (σ : St) : RX emI shM α D cA z 2 σ 0 [(0, .ref (α 0)), (1, .int x1)] [] (f_X11_isTitle x1 σ) := by
  unfold f_X11_isTitle
  refine rx_iload_n C 1 dX11_isTitle_0 rfl rfl ?_
  refine rx_iconst C dX11_isTitle_1 ic_0 ?_
  refine rx_aload_n C 0 dX11_isTitle_2 rfl rfl ?_
  refine rx_getC C (k := 20) sm_0 fc_X11 (by decide) 9 rfl lk_X11_73 dX11_isTitle_3 ?_
  refine rx_aload_n C 0 dX11_isTitle_6 rfl rfl ?_
  refine rx_getI C (k := 12) sm_0 fc_X11 (by decide) rfl lk_X11_48 dX11_isTitle_7 ?_
  refine rx_iald C (n := 2) sm_9 dX11_isTitle_10 (fun _ => ?_)
  refine rx_iconst C dX11_isTitle_11 ic_1 ?_
  refine rx_isub C dX11_isTitle_12 ?_
  refine rx_callSi C [.int x1, .int (0 : Int32), .int ((gI σ 9 (ix (gI σ 0 12))) - (1 : Int32))] [] (m_X11_is z.l C.inj x1 (0 : Int32) ((gI σ 9 (ix (gI σ 0 12))) - (1 : Int32)) σ) ms_X11_is lk_X11_309 rfl rfl (Nat.le_of_ble_eq_true rfl) ⟨Nat.le_of_ble_eq_true rfl, Nat.le_of_ble_eq_true rfl⟩ dX11_isTitle_13 (fun q2 => ?_)
  exact rx_zret C dX11_isTitle_16
theorem m_X11_isTitle (l : Launch) {α : Nat → Nat} {D : va_G} {cA : Nat → ClassId} (hin : inj shM.length α) (x1 : Int32) (σ : St) : CT shM l yX11_isTitle cX11_isTitle 2 (some .boolean) 1 22 emI α D cA [.ref (α 0), .int x1] σ (f_X11_isTitle x1 σ) := ct_of rfl (Nat.le_of_ble_eq_true rfl) hin (fun z _ C => w_X11_isTitle_e C x1 σ)
set_option maxRecDepth 100000 in
set_option maxHeartbeats 4000000 in
theorem w_X11_isLetterCode_e {α : Nat → Nat} {D : va_G} {cA : Nat → ClassId} {z : Cz} (C : CX shM α D cA z RX11 cX11_isLetterCode 1 (some .boolean) 1 22) (x0 : Int32) (σ : St) : RX emI shM α D cA z 1 σ 0 [(0, .int x0)] [] (f_X11_isLetterCode x0 σ) := by
  unfold f_X11_isLetterCode
  refine rx_iload_n C 0 dX11_isLetterCode_0 rfl rfl ?_
  refine rx_bipush C dX11_isLetterCode_1 bp_97 ?_
  refine rx_bipush C dX11_isLetterCode_3 bp_122 ?_
  refine rx_callSi C [.int x0, .int (97 : Int32), .int (122 : Int32)] [] (m_X11_is z.l C.inj x0 (97 : Int32) (122 : Int32) σ) ms_X11_is lk_X11_309 rfl rfl (Nat.le_of_ble_eq_true rfl) ⟨Nat.le_of_ble_eq_true rfl, Nat.le_of_ble_eq_true rfl⟩ dX11_isLetterCode_5 (fun q2 => ?_)
  exact rx_zret C dX11_isLetterCode_8
theorem m_X11_isLetterCode (l : Launch) {α : Nat → Nat} {D : va_G} {cA : Nat → ClassId} (hin : inj shM.length α) (x0 : Int32) (σ : St) : CT shM l yX11_isLetterCode cX11_isLetterCode 1 (some .boolean) 1 22 emI α D cA [.int x0] σ (f_X11_isLetterCode x0 σ) := ct_of rfl (Nat.le_of_ble_eq_true rfl) hin (fun z _ C => w_X11_isLetterCode_e C x0 σ)
set_option maxRecDepth 100000 in
set_option maxHeartbeats 4000000 in
theorem w_X11_hasTitle_19 {α : Nat → Nat} {D : va_G} {cA : Nat → ClassId} {z : Cz} (C : CX shM α D cA z RX11 cX11_hasTitle 3 (some .boolean) 0 0) (s0 : Int32) (σ : St) : RX emI shM α D cA z 3 σ 19 [] [.int s0] (f_X11_hasTitle_19 s0 σ) := by
  unfold f_X11_hasTitle_19
  exact rx_zret C dX11_hasTitle_19
set_option maxRecDepth 100000 in
set_option maxHeartbeats 4000000 in
theorem w_X11_hasTitle_e {α : Nat → Nat} {D : va_G} {cA : Nat → ClassId} {z : Cz} (C : CX shM α D cA z RX11 cX11_hasTitle 3 (some .boolean) 0 0) (x1 : Int32) (x2 : Int32) (σ : St) : RX emI shM α D cA z 3 σ 0 [(0, .ref (α 0)), (1, .int x1), (2, .int x2)] [] (f_X11_hasTitle x1 x2 σ) := by
  unfold f_X11_hasTitle
  refine rx_aload_n C 0 dX11_hasTitle_0 rfl rfl ?_
  refine rx_getC C (k := 53) sm_0 fc_X11 (by decide) 35 rfl lk_X11_174 dX11_hasTitle_1 ?_
  refine rx_iload_n C 1 dX11_hasTitle_4 rfl rfl ?_
  refine rx_iald C (n := 8) sm_35 dX11_hasTitle_5 (fun _ => ?_)
  refine rx_iload_n C 2 dX11_hasTitle_6 rfl rfl ?_
  refine rx_ishr C dX11_hasTitle_7 ?_
  refine rx_iconst C dX11_hasTitle_8 ic_1 ?_
  refine rx_iand C dX11_hasTitle_9 ?_
  refine rx_iconst C dX11_hasTitle_10 ic_1 ?_
  refine rx_icmp_ne C (tgt := 18) dX11_hasTitle_11 (by decide) (fun _ => ?_) (fun _ => ?_)
  · refine rx_iconst C dX11_hasTitle_14 ic_1 ?_
    refine rx_goto C (tgt := 19) dX11_hasTitle_15 (by decide) ?_
    exact RX.loc (w_X11_hasTitle_19 C (1 : Int32) σ) [] rfl
  · refine rx_iconst C dX11_hasTitle_18 ic_0 ?_
    exact RX.loc (w_X11_hasTitle_19 C (0 : Int32) σ) [] rfl
theorem m_X11_hasTitle (l : Launch) {α : Nat → Nat} {D : va_G} {cA : Nat → ClassId} (hin : inj shM.length α) (x1 : Int32) (x2 : Int32) (σ : St) : CT shM l yX11_hasTitle cX11_hasTitle 3 (some .boolean) 0 0 emI α D cA [.ref (α 0), .int x1, .int x2] σ (f_X11_hasTitle x1 x2 σ) := ct_of rfl (Nat.le_of_ble_eq_true rfl) hin (fun z _ C => w_X11_hasTitle_e C x1 x2 σ)
set_option maxRecDepth 100000 in
set_option maxHeartbeats 4000000 in
theorem w_X11_weight_e {α : Nat → Nat} {D : va_G} {cA : Nat → ClassId} {z : Cz} (C : CX shM α D cA z RX11 cX11_weight 2 (some .int) 0 0) (x1 : Int32) (σ : St) : RX emI shM α D cA z 2 σ 0 [(0, .ref (α 0)), (1, .int x1)] [] (f_X11_weight x1 σ) := by
  unfold f_X11_weight
  refine rx_aload_n C 0 dX11_weight_0 rfl rfl ?_
  refine rx_getC C (k := 13) sm_0 fc_X11 (by decide) 2 rfl lk_X11_51 dX11_weight_1 ?_
  refine rx_bipush C dX11_weight_4 bp_26 ?_
  refine rx_aload_n C 0 dX11_weight_6 rfl rfl ?_
  refine rx_getI C (k := 12) sm_0 fc_X11 (by decide) rfl lk_X11_48 dX11_weight_7 ?_
  refine rx_imul C dX11_weight_10 ?_
  refine rx_iload_n C 1 dX11_weight_11 rfl rfl ?_
  refine rx_iadd C dX11_weight_12 ?_
  refine rx_iald C (n := 52) sm_2 dX11_weight_13 (fun _ => ?_)
  exact rx_iret C dX11_weight_14
theorem m_X11_weight (l : Launch) {α : Nat → Nat} {D : va_G} {cA : Nat → ClassId} (hin : inj shM.length α) (x1 : Int32) (σ : St) : CT shM l yX11_weight cX11_weight 2 (some .int) 0 0 emI α D cA [.ref (α 0), .int x1] σ (f_X11_weight x1 σ) := ct_of rfl (Nat.le_of_ble_eq_true rfl) hin (fun z _ C => w_X11_weight_e C x1 σ)
set_option maxRecDepth 100000 in
set_option maxHeartbeats 4000000 in
theorem w_X11_often_45 {α : Nat → Nat} {D : va_G} {cA : Nat → ClassId} {z : Cz} (C : CX shM α D cA z RX11 cX11_often 6 (some .int) 0 0) (k_18 : Int32 → Int32 → Int64 → St → Option (Int32 × St)) (hk_18 : ∀ (x2 : Int32) (x3 : Int32) (y4 : Int64) (σ : St), RX emI shM α D cA z 6 σ 18 [(2, .int x2), (3, .int x3), (4, .long y4)] [] (k_18 x2 x3 y4 σ)) (x2 : Int32) (y4 : Int64) (s1 : Int32) (s0 : Int32) (σ : St) : RX emI shM α D cA z 6 σ 45 [(2, .int x2), (4, .long y4)] [.int s1, .int s0] (f_X11_often_45 k_18 x2 y4 s1 s0 σ) := by
  unfold f_X11_often_45
  refine rx_iadd C dX11_often_45 ?_
  refine rx_lti (fun w5 => ?_)
  refine rx_istore_n C [(3, .int w5), (2, .int x2), (4, .long y4)] dX11_often_46 rfl (by decide) rfl ?_
  refine rx_lload C 2 dX11_often_47 rfl ?_
  refine rx_bipush C dX11_often_49 bp_8 ?_
  refine rx_lushr C dX11_often_51 ?_
  refine rx_ltl (fun w6 => ?_)
  refine rx_lstore C [(4, .long w6), (3, .int w5), (2, .int x2)] dX11_often_52 (by decide) rfl ?_
  refine rx_goto C (tgt := 18) dX11_often_54 (by decide) ?_
  exact RX.loc (hk_18 x2 w5 w6 σ) [2, 1, 0] rfl
set_option maxRecDepth 100000 in
set_option maxHeartbeats 4000000 in
theorem w_X11_often_18 {α : Nat → Nat} {D : va_G} {cA : Nat → ClassId} {z : Cz} (C : CX shM α D cA z RX11 cX11_often 6 (some .int) 0 0) : ∀ (n : Nat) (x2 : Int32) (x3 : Int32) (y4 : Int64) (σ : St), RX emI shM α D cA z 6 σ 18 [(2, .int x2), (3, .int x3), (4, .long y4)] [] (f_X11_often_18 n x2 x3 y4 σ) := by
  intro n
  induction n with
  | zero => intros; exact rx_none
  | succ n hk_18 =>
    intro x2 x3 y4 σ
    rw [f_X11_often_18.eq_2]
    refine rx_lload C 2 dX11_often_18 rfl ?_
    refine rx_lconst C dX11_often_20 lc_0 ?_
    refine rx_lcmp C dX11_often_21 ?_
    refine rx_if_eq C (tgt := 57) dX11_often_22 (by decide) (fun _ => ?_) (fun _ => ?_)
    · refine rx_iload_n C 1 dX11_often_57 rfl rfl ?_
      exact rx_iret C dX11_often_58
    · refine rx_iload_n C 1 dX11_often_25 rfl rfl ?_
      refine rx_lload C 2 dX11_often_26 rfl ?_
      refine rx_ldc2_w C lk_X11_351 dX11_often_28 ?_
      refine rx_land C dX11_often_31 ?_
      refine rx_l2i C dX11_often_32 ?_
      refine rx_bipush C dX11_often_33 bp_97 ?_
      refine rx_isub C dX11_often_35 ?_
      refine rx_iload_n C 0 dX11_often_36 rfl rfl ?_
      refine rx_icmp_ne C (tgt := 44) dX11_often_37 (by decide) (fun _ => ?_) (fun _ => ?_)
      · refine rx_iconst C dX11_often_40 ic_1 ?_
        refine rx_goto C (tgt := 45) dX11_often_41 (by decide) ?_
        exact RX.loc (w_X11_often_45 C (f_X11_often_18 n) hk_18 x2 y4 (1 : Int32) x3 σ) [0, 2] rfl
      · refine rx_iconst C dX11_often_44 ic_0 ?_
        exact RX.loc (w_X11_often_45 C (f_X11_often_18 n) hk_18 x2 y4 (0 : Int32) x3 σ) [0, 2] rfl
set_option maxRecDepth 100000 in
set_option maxHeartbeats 4000000 in
theorem w_X11_often_e {α : Nat → Nat} {D : va_G} {cA : Nat → ClassId} {z : Cz} (C : CX shM α D cA z RX11 cX11_often 6 (some .int) 0 0) (x1 : Int32) (x2 : Int32) (σ : St) : RX emI shM α D cA z 6 σ 0 [(0, .ref (α 0)), (1, .int x1), (2, .int x2)] [] (f_X11_often x1 x2 σ) := by
  unfold f_X11_often
  refine rx_iconst C dX11_often_0 ic_0 ?_
  refine rx_istore_n C [(3, .int (0 : Int32)), (0, .ref (α 0)), (1, .int x1), (2, .int x2)] dX11_often_1 rfl (by decide) rfl ?_
  refine rx_aload_n C 1 dX11_often_2 rfl rfl ?_
  refine rx_getC C (k := 21) sm_0 fc_X11 (by decide) 10 rfl lk_X11_76 dX11_often_3 ?_
  refine rx_bipush C dX11_often_6 bp_12 ?_
  refine rx_aload_n C 1 dX11_often_8 rfl rfl ?_
  refine rx_getI C (k := 12) sm_0 fc_X11 (by decide) rfl lk_X11_48 dX11_often_9 ?_
  refine rx_imul C dX11_often_12 ?_
  refine rx_iload_n C 2 dX11_often_13 rfl rfl ?_
  refine rx_iadd C dX11_often_14 ?_
  refine rx_lald C (n := 24) sm_10 dX11_often_15 (fun _ => ?_)
  refine rx_ltl (fun w4 => ?_)
  refine rx_lstore C [(4, .long w4), (3, .int (0 : Int32)), (0, .ref (α 0)), (1, .int x1), (2, .int x2)] dX11_often_16 (by decide) rfl ?_
  exact RX.loc (w_X11_often_18 C FU x2 (0 : Int32) w4 σ) [4, 1, 0] rfl
theorem m_X11_often (l : Launch) {α : Nat → Nat} {D : va_G} {cA : Nat → ClassId} (hin : inj shM.length α) (x1 : Int32) (x2 : Int32) (σ : St) : CT shM l yX11_often cX11_often 6 (some .int) 0 0 emI α D cA [.ref (α 0), .int x1, .int x2] σ (f_X11_often x1 x2 σ) := ct_of rfl (Nat.le_of_ble_eq_true rfl) hin (fun z _ C => w_X11_often_e C x1 x2 σ)
set_option maxRecDepth 100000 in
set_option maxHeartbeats 4000000 in
theorem w_X11_lengthOf_17 {α : Nat → Nat} {D : va_G} {cA : Nat → ClassId} {z : Cz} (C : CX shM α D cA z RX11 cX11_lengthOf 5 (some .int) 0 0) : ∀ (n : Nat) (x2 : Int32) (y3 : Int64) (σ : St), RX emI shM α D cA z 5 σ 17 [(2, .int x2), (3, .long y3)] [] (f_X11_lengthOf_17 n x2 y3 σ) := by
  intro n
  induction n with
  | zero => intros; exact rx_none
  | succ n hk_17 =>
    intro x2 y3 σ
    rw [f_X11_lengthOf_17.eq_2]
    refine rx_lload_n C 1 dX11_lengthOf_17 rfl rfl ?_
    refine rx_lconst C dX11_lengthOf_18 lc_0 ?_
    refine rx_lcmp C dX11_lengthOf_19 ?_
    refine rx_if_eq C (tgt := 34) dX11_lengthOf_20 (by decide) (fun _ => ?_) (fun _ => ?_)
    · refine rx_iload_n C 0 dX11_lengthOf_34 rfl rfl ?_
      exact rx_iret C dX11_lengthOf_35
    · refine rx_iinc C (k0 := 0) (v := x2 + (1 : Int32)) [(2, .int (x2 + (1 : Int32))), (3, .long y3)] dX11_lengthOf_23 rfl (congrArg _ ic_1) (by decide) rfl ?_
      refine rx_lload_n C 1 dX11_lengthOf_26 rfl rfl ?_
      refine rx_bipush C dX11_lengthOf_27 bp_8 ?_
      refine rx_lushr C dX11_lengthOf_29 ?_
      refine rx_ltl (fun w4 => ?_)
      refine rx_lstore_n C [(3, .long w4), (2, .int (x2 + (1 : Int32)))] dX11_lengthOf_30 rfl (by decide) rfl ?_
      refine rx_goto C (tgt := 17) dX11_lengthOf_31 (by decide) ?_
      exact RX.loc (hk_17 (x2 + (1 : Int32)) w4 σ) [1, 0] rfl
set_option maxRecDepth 100000 in
set_option maxHeartbeats 4000000 in
theorem w_X11_lengthOf_e {α : Nat → Nat} {D : va_G} {cA : Nat → ClassId} {z : Cz} (C : CX shM α D cA z RX11 cX11_lengthOf 5 (some .int) 0 0) (x1 : Int32) (σ : St) : RX emI shM α D cA z 5 σ 0 [(0, .ref (α 0)), (1, .int x1)] [] (f_X11_lengthOf x1 σ) := by
  unfold f_X11_lengthOf
  refine rx_iconst C dX11_lengthOf_0 ic_0 ?_
  refine rx_istore_n C [(2, .int (0 : Int32)), (0, .ref (α 0)), (1, .int x1)] dX11_lengthOf_1 rfl (by decide) rfl ?_
  refine rx_aload_n C 1 dX11_lengthOf_2 rfl rfl ?_
  refine rx_getC C (k := 21) sm_0 fc_X11 (by decide) 10 rfl lk_X11_76 dX11_lengthOf_3 ?_
  refine rx_bipush C dX11_lengthOf_6 bp_12 ?_
  refine rx_aload_n C 1 dX11_lengthOf_8 rfl rfl ?_
  refine rx_getI C (k := 12) sm_0 fc_X11 (by decide) rfl lk_X11_48 dX11_lengthOf_9 ?_
  refine rx_imul C dX11_lengthOf_12 ?_
  refine rx_iload_n C 2 dX11_lengthOf_13 rfl rfl ?_
  refine rx_iadd C dX11_lengthOf_14 ?_
  refine rx_lald C (n := 24) sm_10 dX11_lengthOf_15 (fun _ => ?_)
  refine rx_ltl (fun w3 => ?_)
  refine rx_lstore_n C [(3, .long w3), (2, .int (0 : Int32)), (0, .ref (α 0)), (1, .int x1)] dX11_lengthOf_16 rfl (by decide) rfl ?_
  exact RX.loc (w_X11_lengthOf_17 C FU (0 : Int32) w3 σ) [1, 0] rfl
theorem m_X11_lengthOf (l : Launch) {α : Nat → Nat} {D : va_G} {cA : Nat → ClassId} (hin : inj shM.length α) (x1 : Int32) (σ : St) : CT shM l yX11_lengthOf cX11_lengthOf 5 (some .int) 0 0 emI α D cA [.ref (α 0), .int x1] σ (f_X11_lengthOf x1 σ) := ct_of rfl (Nat.le_of_ble_eq_true rfl) hin (fun z _ C => w_X11_lengthOf_e C x1 σ)
set_option maxRecDepth 100000 in
set_option maxHeartbeats 4000000 in
theorem w_X11_ouncesOf_17 {α : Nat → Nat} {D : va_G} {cA : Nat → ClassId} {z : Cz} (C : CX shM α D cA z RX11 cX11_ouncesOf 5 (some .int) 1 21) : ∀ (n : Nat) (x2 : Int32) (y3 : Int64) (σ : St), RX emI shM α D cA z 5 σ 17 [(0, .ref (α 0)), (2, .int x2), (3, .long y3)] [] (f_X11_ouncesOf_17 n x2 y3 σ) := by
  intro n
  induction n with
  | zero => intros; exact rx_none
  | succ n hk_17 =>
    intro x2 y3 σ
    rw [f_X11_ouncesOf_17.eq_2]
    refine rx_lload_n C 2 dX11_ouncesOf_17 rfl rfl ?_
    refine rx_lconst C dX11_ouncesOf_18 lc_0 ?_
    refine rx_lcmp C dX11_ouncesOf_19 ?_
    refine rx_if_eq C (tgt := 47) dX11_ouncesOf_20 (by decide) (fun _ => ?_) (fun _ => ?_)
    · refine rx_iload_n C 1 dX11_ouncesOf_47 rfl rfl ?_
      exact rx_iret C dX11_ouncesOf_48
    · refine rx_iload_n C 1 dX11_ouncesOf_23 rfl rfl ?_
      refine rx_aload_n C 0 dX11_ouncesOf_24 rfl rfl ?_
      refine rx_lload_n C 2 dX11_ouncesOf_25 rfl rfl ?_
      refine rx_ldc2_w C lk_X11_351 dX11_ouncesOf_26 ?_
      refine rx_land C dX11_ouncesOf_29 ?_
      refine rx_l2i C dX11_ouncesOf_30 ?_
      refine rx_bipush C dX11_ouncesOf_31 bp_97 ?_
      refine rx_isub C dX11_ouncesOf_33 ?_
      refine rx_callVi C [.int (((y3 &&& (255 : Int64)).toInt32) - (97 : Int32))] [.int x2] (m_X11_weight z.l C.inj (((y3 &&& (255 : Int64)).toInt32) - (97 : Int32)) σ) mv_X11_weight lk_X11_433 sm_0 rfl rfl rfl (Nat.le_of_ble_eq_true rfl) ⟨Nat.le_of_ble_eq_true rfl, Nat.le_of_ble_eq_true rfl⟩ dX11_ouncesOf_34 (fun q6 => ?_)
      refine rx_iadd C dX11_ouncesOf_37 ?_
      refine rx_lti (fun w7 => ?_)
      refine rx_istore_n C [(2, .int w7), (0, .ref (α 0)), (3, .long y3)] dX11_ouncesOf_38 rfl (by decide) rfl ?_
      refine rx_lload_n C 2 dX11_ouncesOf_39 rfl rfl ?_
      refine rx_bipush C dX11_ouncesOf_40 bp_8 ?_
      refine rx_lushr C dX11_ouncesOf_42 ?_
      refine rx_ltl (fun w8 => ?_)
      refine rx_lstore_n C [(3, .long w8), (2, .int w7), (0, .ref (α 0))] dX11_ouncesOf_43 rfl (by decide) rfl ?_
      refine rx_goto C (tgt := 17) dX11_ouncesOf_44 (by decide) ?_
      exact RX.loc (hk_17 w7 w8 q6.2) [2, 1, 0] rfl
set_option maxRecDepth 100000 in
set_option maxHeartbeats 4000000 in
theorem w_X11_ouncesOf_e {α : Nat → Nat} {D : va_G} {cA : Nat → ClassId} {z : Cz} (C : CX shM α D cA z RX11 cX11_ouncesOf 5 (some .int) 1 21) (x1 : Int32) (σ : St) : RX emI shM α D cA z 5 σ 0 [(0, .ref (α 0)), (1, .int x1)] [] (f_X11_ouncesOf x1 σ) := by
  unfold f_X11_ouncesOf
  refine rx_iconst C dX11_ouncesOf_0 ic_0 ?_
  refine rx_istore_n C [(2, .int (0 : Int32)), (0, .ref (α 0)), (1, .int x1)] dX11_ouncesOf_1 rfl (by decide) rfl ?_
  refine rx_aload_n C 1 dX11_ouncesOf_2 rfl rfl ?_
  refine rx_getC C (k := 21) sm_0 fc_X11 (by decide) 10 rfl lk_X11_76 dX11_ouncesOf_3 ?_
  refine rx_bipush C dX11_ouncesOf_6 bp_12 ?_
  refine rx_aload_n C 1 dX11_ouncesOf_8 rfl rfl ?_
  refine rx_getI C (k := 12) sm_0 fc_X11 (by decide) rfl lk_X11_48 dX11_ouncesOf_9 ?_
  refine rx_imul C dX11_ouncesOf_12 ?_
  refine rx_iload_n C 2 dX11_ouncesOf_13 rfl rfl ?_
  refine rx_iadd C dX11_ouncesOf_14 ?_
  refine rx_lald C (n := 24) sm_10 dX11_ouncesOf_15 (fun _ => ?_)
  refine rx_ltl (fun w5 => ?_)
  refine rx_lstore_n C [(3, .long w5), (2, .int (0 : Int32)), (0, .ref (α 0)), (1, .int x1)] dX11_ouncesOf_16 rfl (by decide) rfl ?_
  exact RX.loc (w_X11_ouncesOf_17 C FU (0 : Int32) w5 σ) [2, 1, 0] rfl
theorem m_X11_ouncesOf (l : Launch) {α : Nat → Nat} {D : va_G} {cA : Nat → ClassId} (hin : inj shM.length α) (x1 : Int32) (σ : St) : CT shM l yX11_ouncesOf cX11_ouncesOf 5 (some .int) 1 21 emI α D cA [.ref (α 0), .int x1] σ (f_X11_ouncesOf x1 σ) := ct_of rfl (Nat.le_of_ble_eq_true rfl) hin (fun z _ C => w_X11_ouncesOf_e C x1 σ)
set_option maxRecDepth 100000 in
set_option maxHeartbeats 4000000 in
theorem w_X11_honourOf_e {α : Nat → Nat} {D : va_G} {cA : Nat → ClassId} {z : Cz} (C : CX shM α D cA z RX11 cX11_honourOf 2 (some .int) 0 0) (x1 : Int32) (σ : St) : RX emI shM α D cA z 2 σ 0 [(0, .ref (α 0)), (1, .int x1)] [] (f_X11_honourOf x1 σ) := by
  unfold f_X11_honourOf
  refine rx_aload_n C 0 dX11_honourOf_0 rfl rfl ?_
  refine rx_getC C (k := 22) sm_0 fc_X11 (by decide) 11 rfl lk_X11_79 dX11_honourOf_1 ?_
  refine rx_bipush C dX11_honourOf_4 bp_12 ?_
  refine rx_aload_n C 0 dX11_honourOf_6 rfl rfl ?_
  refine rx_getI C (k := 12) sm_0 fc_X11 (by decide) rfl lk_X11_48 dX11_honourOf_7 ?_
  refine rx_imul C dX11_honourOf_10 ?_
  refine rx_iload_n C 1 dX11_honourOf_11 rfl rfl ?_
  refine rx_iadd C dX11_honourOf_12 ?_
  refine rx_iald C (n := 24) sm_11 dX11_honourOf_13 (fun _ => ?_)
  exact rx_iret C dX11_honourOf_14
theorem m_X11_honourOf (l : Launch) {α : Nat → Nat} {D : va_G} {cA : Nat → ClassId} (hin : inj shM.length α) (x1 : Int32) (σ : St) : CT shM l yX11_honourOf cX11_honourOf 2 (some .int) 0 0 emI α D cA [.ref (α 0), .int x1] σ (f_X11_honourOf x1 σ) := ct_of rfl (Nat.le_of_ble_eq_true rfl) hin (fun z _ C => w_X11_honourOf_e C x1 σ)
set_option maxRecDepth 100000 in
set_option maxHeartbeats 4000000 in
theorem w_X11_looseOunces_4 {α : Nat → Nat} {D : va_G} {cA : Nat → ClassId} {z : Cz} (C : CX shM α D cA z RX11 cX11_looseOunces 4 (some .int) 1 21) : ∀ (n : Nat) (x1 : Int32) (x2 : Int32) (x3 : Int32) (σ : St), RX emI shM α D cA z 4 σ 4 [(0, .ref (α 0)), (1, .int x1), (2, .int x2), (3, .int x3)] [] (f_X11_looseOunces_4 n x1 x2 x3 σ) := by
  intro n
  induction n with
  | zero => intros; exact rx_none
  | succ n hk_4 =>
    intro x1 x2 x3 σ
    rw [f_X11_looseOunces_4.eq_2]
    refine rx_iload_n C 3 dX11_looseOunces_4 rfl rfl ?_
    refine rx_bipush C dX11_looseOunces_5 bp_26 ?_
    refine rx_icmp_ge C (tgt := 36) dX11_looseOunces_7 (by decide) (fun _ => ?_) (fun _ => ?_)
    · refine rx_iload_n C 2 dX11_looseOunces_36 rfl rfl ?_
      exact rx_iret C dX11_looseOunces_37
    · refine rx_iload_n C 2 dX11_looseOunces_10 rfl rfl ?_
      refine rx_aload_n C 0 dX11_looseOunces_11 rfl rfl ?_
      refine rx_getC C (k := 54) sm_0 fc_X11 (by decide) 36 rfl lk_X11_177 dX11_looseOunces_12 ?_
      refine rx_bipush C dX11_looseOunces_15 bp_26 ?_
      refine rx_iload_n C 1 dX11_looseOunces_17 rfl rfl ?_
      refine rx_imul C dX11_looseOunces_18 ?_
      refine rx_iload_n C 3 dX11_looseOunces_19 rfl rfl ?_
      refine rx_iadd C dX11_looseOunces_20 ?_
      refine rx_iald C (n := 234) sm_36 dX11_looseOunces_21 (fun _ => ?_)
      refine rx_aload_n C 0 dX11_looseOunces_22 rfl rfl ?_
      refine rx_iload_n C 3 dX11_looseOunces_23 rfl rfl ?_
      refine rx_callVi C [.int x3] [.int (gI σ 36 (ix (((26 : Int32) * x1) + x3))), .int x2] (m_X11_weight z.l C.inj x3 σ) mv_X11_weight lk_X11_433 sm_0 rfl rfl rfl (Nat.le_of_ble_eq_true rfl) ⟨Nat.le_of_ble_eq_true rfl, Nat.le_of_ble_eq_true rfl⟩ dX11_looseOunces_24 (fun q3 => ?_)
      refine rx_imul C dX11_looseOunces_27 ?_
      refine rx_iadd C dX11_looseOunces_28 ?_
      refine rx_lti (fun w4 => ?_)
      refine rx_istore_n C [(2, .int w4), (0, .ref (α 0)), (1, .int x1), (3, .int x3)] dX11_looseOunces_29 rfl (by decide) rfl ?_
      refine rx_iinc C (k0 := 3) (v := x3 + (1 : Int32)) [(3, .int (x3 + (1 : Int32))), (2, .int w4), (0, .ref (α 0)), (1, .int x1)] dX11_looseOunces_30 rfl (congrArg _ ic_1) (by decide) rfl ?_
      refine rx_goto C (tgt := 4) dX11_looseOunces_33 (by decide) ?_
      exact RX.loc (hk_4 x1 w4 (x3 + (1 : Int32)) q3.2) [2, 3, 1, 0] rfl
set_option maxRecDepth 100000 in
set_option maxHeartbeats 4000000 in
theorem w_X11_looseOunces_e {α : Nat → Nat} {D : va_G} {cA : Nat → ClassId} {z : Cz} (C : CX shM α D cA z RX11 cX11_looseOunces 4 (some .int) 1 21) (x1 : Int32) (σ : St) : RX emI shM α D cA z 4 σ 0 [(0, .ref (α 0)), (1, .int x1)] [] (f_X11_looseOunces x1 σ) := by
  unfold f_X11_looseOunces
  refine rx_iconst C dX11_looseOunces_0 ic_0 ?_
  refine rx_istore_n C [(2, .int (0 : Int32)), (0, .ref (α 0)), (1, .int x1)] dX11_looseOunces_1 rfl (by decide) rfl ?_
  refine rx_iconst C dX11_looseOunces_2 ic_0 ?_
  refine rx_istore_n C [(3, .int (0 : Int32)), (2, .int (0 : Int32)), (0, .ref (α 0)), (1, .int x1)] dX11_looseOunces_3 rfl (by decide) rfl ?_
  exact RX.loc (w_X11_looseOunces_4 C FU x1 (0 : Int32) (0 : Int32) σ) [2, 3, 1, 0] rfl
theorem m_X11_looseOunces (l : Launch) {α : Nat → Nat} {D : va_G} {cA : Nat → ClassId} (hin : inj shM.length α) (x1 : Int32) (σ : St) : CT shM l yX11_looseOunces cX11_looseOunces 4 (some .int) 1 21 emI α D cA [.ref (α 0), .int x1] σ (f_X11_looseOunces x1 σ) := ct_of rfl (Nat.le_of_ble_eq_true rfl) hin (fun z _ C => w_X11_looseOunces_e C x1 σ)
set_option maxRecDepth 100000 in
set_option maxHeartbeats 4000000 in
theorem w_X11_sumOf_52 {α : Nat → Nat} {D : va_G} {cA : Nat → ClassId} {z : Cz} (C : CX shM α D cA z RX11 cX11_sumOf 5 (some .int) 2 45) (k_5 : Int32 → Int32 → Int32 → Int32 → St → Option (Int32 × St)) (hk_5 : ∀ (x1 : Int32) (x2 : Int32) (x3 : Int32) (x4 : Int32) (σ : St), RX emI shM α D cA z 5 σ 5 [(0, .ref (α 0)), (1, .int x1), (2, .int x2), (3, .int x3), (4, .int x4)] [] (k_5 x1 x2 x3 x4 σ)) (x1 : Int32) (x2 : Int32) (x4 : Int32) (s1 : Int32) (s0 : Int32) (σ : St) : RX emI shM α D cA z 5 σ 52 [(0, .ref (α 0)), (1, .int x1), (2, .int x2), (4, .int x4)] [.int s1, .int s0] (f_X11_sumOf_52 k_5 x1 x2 x4 s1 s0 σ) := by
  unfold f_X11_sumOf_52
  refine rx_iadd C dX11_sumOf_52 ?_
  refine rx_lti (fun w4 => ?_)
  refine rx_istore_n C [(3, .int w4), (0, .ref (α 0)), (1, .int x1), (2, .int x2), (4, .int x4)] dX11_sumOf_53 rfl (by decide) rfl ?_
  refine rx_iinc C (k0 := 4) (v := x4 + (1 : Int32)) [(4, .int (x4 + (1 : Int32))), (3, .int w4), (0, .ref (α 0)), (1, .int x1), (2, .int x2)] dX11_sumOf_54 rfl (congrArg _ ic_1) (by decide) rfl ?_
  refine rx_goto C (tgt := 5) dX11_sumOf_57 (by decide) ?_
  exact RX.loc (hk_5 x1 x2 w4 (x4 + (1 : Int32)) σ) [2, 3, 4, 1, 0] rfl
set_option maxRecDepth 100000 in
set_option maxHeartbeats 4000000 in
theorem w_X11_sumOf_5 {α : Nat → Nat} {D : va_G} {cA : Nat → ClassId} {z : Cz} (C : CX shM α D cA z RX11 cX11_sumOf 5 (some .int) 2 45) : ∀ (n : Nat) (x1 : Int32) (x2 : Int32) (x3 : Int32) (x4 : Int32) (σ : St), RX emI shM α D cA z 5 σ 5 [(0, .ref (α 0)), (1, .int x1), (2, .int x2), (3, .int x3), (4, .int x4)] [] (f_X11_sumOf_5 n x1 x2 x3 x4 σ) := by
  intro n
  induction n with
  | zero => intros; exact rx_none
  | succ n hk_5 =>
    intro x1 x2 x3 x4 σ
    rw [f_X11_sumOf_5.eq_2]
    refine rx_iload C 4 dX11_sumOf_5 rfl ?_
    refine rx_aload_n C 0 dX11_sumOf_7 rfl rfl ?_
    refine rx_getC C (k := 20) sm_0 fc_X11 (by decide) 9 rfl lk_X11_73 dX11_sumOf_8 ?_
    refine rx_aload_n C 0 dX11_sumOf_11 rfl rfl ?_
    refine rx_getI C (k := 12) sm_0 fc_X11 (by decide) rfl lk_X11_48 dX11_sumOf_12 ?_
    refine rx_iald C (n := 2) sm_9 dX11_sumOf_15 (fun _ => ?_)
    refine rx_icmp_ge C (tgt := 60) dX11_sumOf_16 (by decide) (fun _ => ?_) (fun _ => ?_)
    · refine rx_iload_n C 3 dX11_sumOf_60 rfl rfl ?_
      exact rx_iret C dX11_sumOf_61
    · refine rx_iload_n C 3 dX11_sumOf_19 rfl rfl ?_
      refine rx_iload_n C 1 dX11_sumOf_20 rfl rfl ?_
      refine rx_iload C 4 dX11_sumOf_21 rfl ?_
      refine rx_ishr C dX11_sumOf_23 ?_
      refine rx_iconst C dX11_sumOf_24 ic_1 ?_
      refine rx_iand C dX11_sumOf_25 ?_
      refine rx_if_ne C (tgt := 33) dX11_sumOf_26 (by decide) (fun _ => ?_) (fun _ => ?_)
      · refine rx_iconst C dX11_sumOf_29 ic_0 ?_
        refine rx_goto C (tgt := 52) dX11_sumOf_30 (by decide) ?_
        exact RX.loc (w_X11_sumOf_52 C (f_X11_sumOf_5 n) hk_5 x1 x2 x4 (0 : Int32) x3 σ) [0, 1, 2, 4] rfl
      · refine rx_iload_n C 2 dX11_sumOf_33 rfl rfl ?_
        refine rx_if_eq C (tgt := 46) dX11_sumOf_34 (by decide) (fun _ => ?_) (fun _ => ?_)
        · refine rx_aload_n C 0 dX11_sumOf_46 rfl rfl ?_
          refine rx_iload C 4 dX11_sumOf_47 rfl ?_
          refine rx_callVi C [.int x4] [.int x3] (m_X11_ouncesOf z.l C.inj x4 σ) mv_X11_ouncesOf lk_X11_439 sm_0 rfl rfl rfl (Nat.le_of_ble_eq_true rfl) ⟨Nat.le_of_ble_eq_true rfl, Nat.le_of_ble_eq_true rfl⟩ dX11_sumOf_49 (fun q5 => ?_)
          exact RX.loc (w_X11_sumOf_52 C (f_X11_sumOf_5 n) hk_5 x1 x2 x4 q5.1 x3 q5.2) [0, 1, 2, 4] rfl
        · refine rx_aload_n C 0 dX11_sumOf_37 rfl rfl ?_
          refine rx_iload C 4 dX11_sumOf_38 rfl ?_
          refine rx_callVi C [.int x4] [.int x3] (m_X11_honourOf z.l C.inj x4 σ) mv_X11_honourOf lk_X11_436 sm_0 rfl rfl rfl (Nat.le_of_ble_eq_true rfl) ⟨Nat.le_of_ble_eq_true rfl, Nat.le_of_ble_eq_true rfl⟩ dX11_sumOf_40 (fun q6 => ?_)
          refine rx_goto C (tgt := 52) dX11_sumOf_43 (by decide) ?_
          exact RX.loc (w_X11_sumOf_52 C (f_X11_sumOf_5 n) hk_5 x1 x2 x4 q6.1 x3 q6.2) [0, 1, 2, 4] rfl
set_option maxRecDepth 100000 in
set_option maxHeartbeats 4000000 in
theorem w_X11_sumOf_e {α : Nat → Nat} {D : va_G} {cA : Nat → ClassId} {z : Cz} (C : CX shM α D cA z RX11 cX11_sumOf 5 (some .int) 2 45) (x1 : Int32) (x2 : Int32) (σ : St) : RX emI shM α D cA z 5 σ 0 [(0, .ref (α 0)), (1, .int x1), (2, .int x2)] [] (f_X11_sumOf x1 x2 σ) := by
  unfold f_X11_sumOf
  refine rx_iconst C dX11_sumOf_0 ic_0 ?_
  refine rx_istore_n C [(3, .int (0 : Int32)), (0, .ref (α 0)), (1, .int x1), (2, .int x2)] dX11_sumOf_1 rfl (by decide) rfl ?_
  refine rx_iconst C dX11_sumOf_2 ic_0 ?_
  refine rx_istore C [(4, .int (0 : Int32)), (3, .int (0 : Int32)), (0, .ref (α 0)), (1, .int x1), (2, .int x2)] dX11_sumOf_3 (by decide) rfl ?_
  exact RX.loc (w_X11_sumOf_5 C FU x1 x2 (0 : Int32) (0 : Int32) σ) [2, 3, 4, 1, 0] rfl
theorem m_X11_sumOf (l : Launch) {α : Nat → Nat} {D : va_G} {cA : Nat → ClassId} (hin : inj shM.length α) (x1 : Int32) (x2 : Int32) (σ : St) : CT shM l yX11_sumOf cX11_sumOf 5 (some .int) 2 45 emI α D cA [.ref (α 0), .int x1, .int x2] σ (f_X11_sumOf x1 x2 σ) := ct_of rfl (Nat.le_of_ble_eq_true rfl) hin (fun z _ C => w_X11_sumOf_e C x1 x2 σ)
set_option maxRecDepth 100000 in
set_option maxHeartbeats 4000000 in
theorem w_X11_loadOf_e {α : Nat → Nat} {D : va_G} {cA : Nat → ClassId} {z : Cz} (C : CX shM α D cA z RX11 cX11_loadOf 2 (some .int) 3 69) (x1 : Int32) (σ : St) : RX emI shM α D cA z 2 σ 0 [(0, .ref (α 0)), (1, .int x1)] [] (f_X11_loadOf x1 σ) := by
  unfold f_X11_loadOf
  refine rx_aload_n C 0 dX11_loadOf_0 rfl rfl ?_
  refine rx_aload_n C 0 dX11_loadOf_1 rfl rfl ?_
  refine rx_getC C (k := 53) sm_0 fc_X11 (by decide) 35 rfl lk_X11_174 dX11_loadOf_2 ?_
  refine rx_iload_n C 1 dX11_loadOf_5 rfl rfl ?_
  refine rx_iald C (n := 8) sm_35 dX11_loadOf_6 (fun _ => ?_)
  refine rx_iconst C dX11_loadOf_7 ic_0 ?_
  refine rx_callVi C [.int (gI σ 35 (ix x1)), .int (0 : Int32)] [] (m_X11_sumOf z.l C.inj (gI σ 35 (ix x1)) (0 : Int32) σ) mv_X11_sumOf lk_X11_442 sm_0 rfl rfl rfl (Nat.le_of_ble_eq_true rfl) ⟨Nat.le_of_ble_eq_true rfl, Nat.le_of_ble_eq_true rfl⟩ dX11_loadOf_8 (fun q3 => ?_)
  refine rx_aload_n C 0 dX11_loadOf_11 rfl rfl ?_
  refine rx_iload_n C 1 dX11_loadOf_12 rfl rfl ?_
  refine rx_callVi C [.int x1] [.int q3.1] (m_X11_looseOunces z.l C.inj x1 q3.2) mv_X11_looseOunces lk_X11_446 sm_0 rfl rfl rfl (Nat.le_of_ble_eq_true rfl) ⟨Nat.le_of_ble_eq_true rfl, Nat.le_of_ble_eq_true rfl⟩ dX11_loadOf_13 (fun q4 => ?_)
  refine rx_iadd C dX11_loadOf_16 ?_
  exact rx_iret C dX11_loadOf_17
theorem m_X11_loadOf (l : Launch) {α : Nat → Nat} {D : va_G} {cA : Nat → ClassId} (hin : inj shM.length α) (x1 : Int32) (σ : St) : CT shM l yX11_loadOf cX11_loadOf 2 (some .int) 3 69 emI α D cA [.ref (α 0), .int x1] σ (f_X11_loadOf x1 σ) := ct_of rfl (Nat.le_of_ble_eq_true rfl) hin (fun z _ C => w_X11_loadOf_e C x1 σ)
set_option maxRecDepth 100000 in
set_option maxHeartbeats 4000000 in
theorem w_X11_bitsOf_4 {α : Nat → Nat} {D : va_G} {cA : Nat → ClassId} {z : Cz} (C : CX shM α D cA z RX11 cX11_bitsOf 3 (some .int) 0 0) : ∀ (n : Nat) (x1 : Int32) (x2 : Int32) (σ : St), RX emI shM α D cA z 3 σ 4 [(1, .int x1), (2, .int x2)] [] (f_X11_bitsOf_4 n x1 x2 σ) := by
  intro n
  induction n with
  | zero => intros; exact rx_none
  | succ n hk_4 =>
    intro x1 x2 σ
    rw [f_X11_bitsOf_4.eq_2]
    refine rx_iload_n C 1 dX11_bitsOf_4 rfl rfl ?_
    refine rx_if_eq C (tgt := 21) dX11_bitsOf_5 (by decide) (fun _ => ?_) (fun _ => ?_)
    · refine rx_iload_n C 0 dX11_bitsOf_21 rfl rfl ?_
      exact rx_iret C dX11_bitsOf_22
    · refine rx_iload_n C 0 dX11_bitsOf_8 rfl rfl ?_
      refine rx_iload_n C 1 dX11_bitsOf_9 rfl rfl ?_
      refine rx_iconst C dX11_bitsOf_10 ic_1 ?_
      refine rx_iand C dX11_bitsOf_11 ?_
      refine rx_iadd C dX11_bitsOf_12 ?_
      refine rx_lti (fun w3 => ?_)
      refine rx_istore_n C [(1, .int w3), (2, .int x2)] dX11_bitsOf_13 rfl (by decide) rfl ?_
      refine rx_iload_n C 1 dX11_bitsOf_14 rfl rfl ?_
      refine rx_iconst C dX11_bitsOf_15 ic_1 ?_
      refine rx_iushr C dX11_bitsOf_16 ?_
      refine rx_lti (fun w4 => ?_)
      refine rx_istore_n C [(2, .int w4), (1, .int w3)] dX11_bitsOf_17 rfl (by decide) rfl ?_
      refine rx_goto C (tgt := 4) dX11_bitsOf_18 (by decide) ?_
      exact RX.loc (hk_4 w3 w4 σ) [1, 0] rfl
set_option maxRecDepth 100000 in
set_option maxHeartbeats 4000000 in
theorem w_X11_bitsOf_e {α : Nat → Nat} {D : va_G} {cA : Nat → ClassId} {z : Cz} (C : CX shM α D cA z RX11 cX11_bitsOf 3 (some .int) 0 0) (x0 : Int32) (σ : St) : RX emI shM α D cA z 3 σ 0 [(0, .int x0)] [] (f_X11_bitsOf x0 σ) := by
  unfold f_X11_bitsOf
  refine rx_iconst C dX11_bitsOf_0 ic_0 ?_
  refine rx_istore_n C [(1, .int (0 : Int32)), (0, .int x0)] dX11_bitsOf_1 rfl (by decide) rfl ?_
  refine rx_iload_n C 1 dX11_bitsOf_2 rfl rfl ?_
  refine rx_istore_n C [(2, .int x0), (1, .int (0 : Int32)), (0, .int x0)] dX11_bitsOf_3 rfl (by decide) rfl ?_
  exact RX.loc (w_X11_bitsOf_4 C FU (0 : Int32) x0 σ) [1, 0] rfl
theorem m_X11_bitsOf (l : Launch) {α : Nat → Nat} {D : va_G} {cA : Nat → ClassId} (hin : inj shM.length α) (x0 : Int32) (σ : St) : CT shM l yX11_bitsOf cX11_bitsOf 3 (some .int) 0 0 emI α D cA [.int x0] σ (f_X11_bitsOf x0 σ) := ct_of rfl (Nat.le_of_ble_eq_true rfl) hin (fun z _ C => w_X11_bitsOf_e C x0 σ)
set_option maxRecDepth 100000 in
set_option maxHeartbeats 4000000 in
theorem w_X11_ageOf_29 {α : Nat → Nat} {D : va_G} {cA : Nat → ClassId} {z : Cz} (C : CX shM α D cA z RX11 cX11_ageOf 3 (some .int) 0 0) (s0 : Int32) (σ : St) : RX emI shM α D cA z 3 σ 29 [] [.int s0] (f_X11_ageOf_29 s0 σ) := by
  unfold f_X11_ageOf_29
  exact rx_iret C dX11_ageOf_29
set_option maxRecDepth 100000 in
set_option maxHeartbeats 4000000 in
theorem w_X11_ageOf_e {α : Nat → Nat} {D : va_G} {cA : Nat → ClassId} {z : Cz} (C : CX shM α D cA z RX11 cX11_ageOf 3 (some .int) 0 0) (x1 : Int32) (σ : St) : RX emI shM α D cA z 3 σ 0 [(0, .ref (α 0)), (1, .int x1)] [] (f_X11_ageOf x1 σ) := by
  unfold f_X11_ageOf
  refine rx_aload_n C 0 dX11_ageOf_0 rfl rfl ?_
  refine rx_getI C (k := 52) sm_0 fc_X11 (by decide) rfl lk_X11_171 dX11_ageOf_1 ?_
  refine rx_aload_n C 0 dX11_ageOf_4 rfl rfl ?_
  refine rx_getC C (k := 16) sm_0 fc_X11 (by decide) 5 rfl lk_X11_61 dX11_ageOf_5 ?_
  refine rx_bipush C dX11_ageOf_8 bp_8 ?_
  refine rx_aload_n C 0 dX11_ageOf_10 rfl rfl ?_
  refine rx_getI C (k := 12) sm_0 fc_X11 (by decide) rfl lk_X11_48 dX11_ageOf_11 ?_
  refine rx_imul C dX11_ageOf_14 ?_
  refine rx_iload_n C 1 dX11_ageOf_15 rfl rfl ?_
  refine rx_iadd C dX11_ageOf_16 ?_
  refine rx_iald C (n := 16) sm_5 dX11_ageOf_17 (fun _ => ?_)
  refine rx_isub C dX11_ageOf_18 ?_
  refine rx_lti (fun w2 => ?_)
  refine rx_istore_n C [(2, .int w2), (0, .ref (α 0)), (1, .int x1)] dX11_ageOf_19 rfl (by decide) rfl ?_
  refine rx_iload_n C 0 dX11_ageOf_20 rfl rfl ?_
  refine rx_if_ge C (tgt := 28) dX11_ageOf_21 (by decide) (fun _ => ?_) (fun _ => ?_)
  · refine rx_iload_n C 0 dX11_ageOf_28 rfl rfl ?_
    exact RX.loc (w_X11_ageOf_29 C w2 σ) [] rfl
  · refine rx_iconst C dX11_ageOf_24 ic_0 ?_
    refine rx_goto C (tgt := 29) dX11_ageOf_25 (by decide) ?_
    exact RX.loc (w_X11_ageOf_29 C (0 : Int32) σ) [] rfl
theorem m_X11_ageOf (l : Launch) {α : Nat → Nat} {D : va_G} {cA : Nat → ClassId} (hin : inj shM.length α) (x1 : Int32) (σ : St) : CT shM l yX11_ageOf cX11_ageOf 3 (some .int) 0 0 emI α D cA [.ref (α 0), .int x1] σ (f_X11_ageOf x1 σ) := ct_of rfl (Nat.le_of_ble_eq_true rfl) hin (fun z _ C => w_X11_ageOf_e C x1 σ)
set_option maxRecDepth 100000 in
set_option maxHeartbeats 4000000 in
theorem w_X11_limitOf_271 {α : Nat → Nat} {D : va_G} {cA : Nat → ClassId} {z : Cz} (C : CX shM α D cA z RX11 cX11_limitOf 7 (some .int) 3 74) (s0 : Int32) (σ : St) : RX emI shM α D cA z 7 σ 271 [] [.int s0] (f_X11_limitOf_271 s0 σ) := by
  unfold f_X11_limitOf_271
  exact rx_iret C dX11_limitOf_271
set_option maxRecDepth 100000 in
set_option maxHeartbeats 4000000 in
theorem w_X11_limitOf_242 {α : Nat → Nat} {D : va_G} {cA : Nat → ClassId} {z : Cz} (C : CX shM α D cA z RX11 cX11_limitOf 7 (some .int) 3 74) (y4 : Int64) (σ : St) : RX emI shM α D cA z 7 σ 242 [(4, .long y4)] [] (f_X11_limitOf_242 y4 σ) := by
  unfold f_X11_limitOf_242
  refine rx_lload C 0 dX11_limitOf_242 rfl ?_
  refine rx_lconst C dX11_limitOf_244 lc_0 ?_
  refine rx_lcmp C dX11_limitOf_245 ?_
  refine rx_if_ge C (tgt := 253) dX11_limitOf_246 (by decide) (fun _ => ?_) (fun _ => ?_)
  · refine rx_lload C 0 dX11_limitOf_253 rfl ?_
    refine rx_ldc2_w C lk_X11_459 dX11_limitOf_255 ?_
    refine rx_lcmp C dX11_limitOf_258 ?_
    refine rx_if_le C (tgt := 268) dX11_limitOf_259 (by decide) (fun _ => ?_) (fun _ => ?_)
    · refine rx_lload C 0 dX11_limitOf_268 rfl ?_
      refine rx_l2i C dX11_limitOf_270 ?_
      exact RX.loc (w_X11_limitOf_271 C ((y4).toInt32) σ) [] rfl
    · refine rx_sipush C dX11_limitOf_262 sp_9999 ?_
      refine rx_goto C (tgt := 271) dX11_limitOf_265 (by decide) ?_
      exact RX.loc (w_X11_limitOf_271 C (9999 : Int32) σ) [] rfl
  · refine rx_iconst C dX11_limitOf_249 ic_0 ?_
    refine rx_goto C (tgt := 271) dX11_limitOf_250 (by decide) ?_
    exact RX.loc (w_X11_limitOf_271 C (0 : Int32) σ) [] rfl
set_option maxRecDepth 100000 in
set_option maxHeartbeats 4000000 in
theorem w_X11_limitOf_162 {α : Nat → Nat} {D : va_G} {cA : Nat → ClassId} {z : Cz} (C : CX shM α D cA z RX11 cX11_limitOf 7 (some .int) 3 74) : ∀ (n : Nat) (y4 : Int64) (x6 : Int32) (σ : St), RX emI shM α D cA z 7 σ 162 [(0, .ref (α 0)), (4, .long y4), (6, .int x6)] [] (f_X11_limitOf_162 n y4 x6 σ) := by
  intro n
  induction n with
  | zero => intros; exact rx_none
  | succ n hk_162 =>
    intro y4 x6 σ
    rw [f_X11_limitOf_162.eq_2]
    refine rx_iload C 2 dX11_limitOf_162 rfl ?_
    refine rx_bipush C dX11_limitOf_164 bp_8 ?_
    refine rx_aload_n C 0 dX11_limitOf_166 rfl rfl ?_
    refine rx_getI C (k := 12) sm_0 fc_X11 (by decide) rfl lk_X11_48 dX11_limitOf_167 ?_
    refine rx_imul C dX11_limitOf_170 ?_
    refine rx_aload_n C 0 dX11_limitOf_171 rfl rfl ?_
    refine rx_getC C (k := 27) sm_0 fc_X11 (by decide) 16 rfl lk_X11_94 dX11_limitOf_172 ?_
    refine rx_aload_n C 0 dX11_limitOf_175 rfl rfl ?_
    refine rx_getI C (k := 12) sm_0 fc_X11 (by decide) rfl lk_X11_48 dX11_limitOf_176 ?_
    refine rx_iald C (n := 2) sm_16 dX11_limitOf_179 (fun _ => ?_)
    refine rx_iadd C dX11_limitOf_180 ?_
    refine rx_icmp_ge C (tgt := 242) dX11_limitOf_181 (by decide) (fun _ => ?_) (fun _ => ?_)
    · exact RX.loc (w_X11_limitOf_242 C y4 σ) [1] rfl
    · refine rx_aload_n C 0 dX11_limitOf_184 rfl rfl ?_
      refine rx_aload_n C 0 dX11_limitOf_185 rfl rfl ?_
      refine rx_getC C (k := 29) sm_0 fc_X11 (by decide) 18 rfl lk_X11_100 dX11_limitOf_186 ?_
      refine rx_iload C 2 dX11_limitOf_189 rfl ?_
      refine rx_iald C (n := 16) sm_18 dX11_limitOf_191 (fun _ => ?_)
      refine rx_aload_n C 0 dX11_limitOf_192 rfl rfl ?_
      refine rx_getC C (k := 30) sm_0 fc_X11 (by decide) 19 rfl lk_X11_103 dX11_limitOf_193 ?_
      refine rx_iload C 2 dX11_limitOf_196 rfl ?_
      refine rx_iald C (n := 16) sm_19 dX11_limitOf_198 (fun _ => ?_)
      refine rx_callVl C [.int (gI σ 18 (ix x6)), .int (gI σ 19 (ix x6))] [] (m_X11_works z.l C.inj (gI σ 18 (ix x6)) (gI σ 19 (ix x6)) σ) mv_X11_works lk_X11_455 sm_0 rfl rfl rfl (Nat.le_of_ble_eq_true rfl) ⟨Nat.le_of_ble_eq_true rfl, Nat.le_of_ble_eq_true rfl⟩ dX11_limitOf_199 (fun q29 => ?_)
      refine rx_lconst C dX11_limitOf_202 lc_1 ?_
      refine rx_lcmp C dX11_limitOf_203 ?_
      refine rx_if_eq C (tgt := 210) dX11_limitOf_204 (by decide) (fun _ => ?_) (fun _ => ?_)
      · refine rx_lload C 1 dX11_limitOf_210 rfl ?_
        refine rx_aload_n C 0 dX11_limitOf_212 rfl rfl ?_
        refine rx_aload_n C 0 dX11_limitOf_213 rfl rfl ?_
        refine rx_getC C (k := 28) sm_0 fc_X11 (by decide) 17 rfl lk_X11_97 dX11_limitOf_214 ?_
        refine rx_iload C 2 dX11_limitOf_217 rfl ?_
        refine rx_iald C (n := 16) sm_17 dX11_limitOf_219 (fun _ => ?_)
        refine rx_aload_n C 0 dX11_limitOf_220 rfl rfl ?_
        refine rx_getC C (k := 29) sm_0 fc_X11 (by decide) 18 rfl lk_X11_100 dX11_limitOf_221 ?_
        refine rx_iload C 2 dX11_limitOf_224 rfl ?_
        refine rx_iald C (n := 16) sm_18 dX11_limitOf_226 (fun _ => ?_)
        refine rx_callVl C [.int (gI q29.2 17 (ix x6)), .int (gI q29.2 18 (ix x6))] [.long y4] (m_X11_works z.l C.inj (gI q29.2 17 (ix x6)) (gI q29.2 18 (ix x6)) q29.2) mv_X11_works lk_X11_455 sm_0 rfl rfl rfl (Nat.le_of_ble_eq_true rfl) ⟨Nat.le_of_ble_eq_true rfl, Nat.le_of_ble_eq_true rfl⟩ dX11_limitOf_227 (fun q30 => ?_)
        refine rx_ladd C dX11_limitOf_230 ?_
        refine rx_ltl (fun w31 => ?_)
        refine rx_lstore C [(4, .long w31), (0, .ref (α 0)), (6, .int x6)] dX11_limitOf_231 (by decide) rfl ?_
        refine rx_goto C (tgt := 242) dX11_limitOf_233 (by decide) ?_
        exact RX.loc (w_X11_limitOf_242 C w31 q30.2) [0] rfl
      · refine rx_goto C (tgt := 236) dX11_limitOf_207 (by decide) ?_
        refine rx_iinc C (k0 := 2) (v := x6 + (1 : Int32)) [(6, .int (x6 + (1 : Int32))), (0, .ref (α 0)), (4, .long y4)] dX11_limitOf_236 rfl (congrArg _ ic_1) (by decide) rfl ?_
        refine rx_goto C (tgt := 162) dX11_limitOf_239 (by decide) ?_
        exact RX.loc (hk_162 y4 (x6 + (1 : Int32)) q29.2) [1, 2, 0] rfl
set_option maxRecDepth 100000 in
set_option maxHeartbeats 4000000 in
theorem w_X11_limitOf_70 {α : Nat → Nat} {D : va_G} {cA : Nat → ClassId} {z : Cz} (C : CX shM α D cA z RX11 cX11_limitOf 7 (some .int) 3 74) (k_22 : Int32 → Int32 → Int32 → Int32 → St → Option (Int32 × St)) (hk_22 : ∀ (x1 : Int32) (x2 : Int32) (x3 : Int32) (x4 : Int32) (σ : St), RX emI shM α D cA z 7 σ 22 [(0, .ref (α 0)), (1, .int x1), (2, .int x2), (3, .int x3), (4, .int x4)] [] (k_22 x1 x2 x3 x4 σ)) (x1 : Int32) (x2 : Int32) (x4 : Int32) (s0 : Int32) (σ : St) : RX emI shM α D cA z 7 σ 70 [(0, .ref (α 0)), (1, .int x1), (2, .int x2), (4, .int x4)] [.int s0] (f_X11_limitOf_70 k_22 x1 x2 x4 s0 σ) := by
  unfold f_X11_limitOf_70
  refine rx_istore_n C [(3, .int s0), (0, .ref (α 0)), (1, .int x1), (2, .int x2), (4, .int x4)] dX11_limitOf_70 rfl (by decide) rfl ?_
  refine rx_iinc C (k0 := 4) (v := x4 + (1 : Int32)) [(4, .int (x4 + (1 : Int32))), (3, .int s0), (0, .ref (α 0)), (1, .int x1), (2, .int x2)] dX11_limitOf_71 rfl (congrArg _ ic_1) (by decide) rfl ?_
  refine rx_goto C (tgt := 22) dX11_limitOf_74 (by decide) ?_
  exact RX.loc (hk_22 x1 x2 s0 (x4 + (1 : Int32)) σ) [2, 3, 4, 1, 0] rfl
set_option maxRecDepth 100000 in
set_option maxHeartbeats 4000000 in
theorem w_X11_limitOf_22 {α : Nat → Nat} {D : va_G} {cA : Nat → ClassId} {z : Cz} (C : CX shM α D cA z RX11 cX11_limitOf 7 (some .int) 3 74) : ∀ (n : Nat) (x1 : Int32) (x2 : Int32) (x3 : Int32) (x4 : Int32) (σ : St), RX emI shM α D cA z 7 σ 22 [(0, .ref (α 0)), (1, .int x1), (2, .int x2), (3, .int x3), (4, .int x4)] [] (f_X11_limitOf_22 n x1 x2 x3 x4 σ) := by
  intro n
  induction n with
  | zero => intros; exact rx_none
  | succ n hk_22 =>
    intro x1 x2 x3 x4 σ
    rw [f_X11_limitOf_22.eq_2]
    refine rx_iload C 4 dX11_limitOf_22 rfl ?_
    refine rx_bipush C dX11_limitOf_24 bp_6 ?_
    refine rx_aload_n C 0 dX11_limitOf_26 rfl rfl ?_
    refine rx_getI C (k := 12) sm_0 fc_X11 (by decide) rfl lk_X11_48 dX11_limitOf_27 ?_
    refine rx_imul C dX11_limitOf_30 ?_
    refine rx_aload_n C 0 dX11_limitOf_31 rfl rfl ?_
    refine rx_getC C (k := 24) sm_0 fc_X11 (by decide) 13 rfl lk_X11_85 dX11_limitOf_32 ?_
    refine rx_aload_n C 0 dX11_limitOf_35 rfl rfl ?_
    refine rx_getI C (k := 12) sm_0 fc_X11 (by decide) rfl lk_X11_48 dX11_limitOf_36 ?_
    refine rx_iald C (n := 2) sm_13 dX11_limitOf_39 (fun _ => ?_)
    refine rx_iadd C dX11_limitOf_40 ?_
    refine rx_icmp_ge C (tgt := 77) dX11_limitOf_41 (by decide) (fun _ => ?_) (fun _ => ?_)
    · refine rx_aload_n C 0 dX11_limitOf_77 rfl rfl ?_
      refine rx_getC C (k := 51) sm_0 fc_X11 (by decide) 34 rfl lk_X11_168 dX11_limitOf_78 ?_
      refine rx_iconst C dX11_limitOf_81 ic_1 ?_
      refine rx_iload_n C 1 dX11_limitOf_82 rfl rfl ?_
      refine rx_iast C (n := 10) sm_34 dX11_limitOf_83 (fun _ => ?_)
      refine rx_lts (fun σ19 => ?_)
      refine rx_aload_n C 0 dX11_limitOf_84 rfl rfl ?_
      refine rx_getC C (k := 51) sm_0 fc_X11 (by decide) 34 rfl lk_X11_168 dX11_limitOf_85 ?_
      refine rx_iconst C dX11_limitOf_88 ic_2 ?_
      refine rx_aload_n C 0 dX11_limitOf_89 rfl rfl ?_
      refine rx_iload_n C 1 dX11_limitOf_90 rfl rfl ?_
      refine rx_callVi C [.int x1] [.int (2 : Int32), .ref (α 34)] (m_X11_ageOf z.l C.inj x1 σ19) mv_X11_ageOf lk_X11_449 sm_0 rfl rfl rfl (Nat.le_of_ble_eq_true rfl) ⟨Nat.le_of_ble_eq_true rfl, Nat.le_of_ble_eq_true rfl⟩ dX11_limitOf_91 (fun q20 => ?_)
      refine rx_iast C (n := 10) sm_34 dX11_limitOf_94 (fun _ => ?_)
      refine rx_lts (fun σ21 => ?_)
      refine rx_aload_n C 0 dX11_limitOf_95 rfl rfl ?_
      refine rx_getC C (k := 51) sm_0 fc_X11 (by decide) 34 rfl lk_X11_168 dX11_limitOf_96 ?_
      refine rx_iconst C dX11_limitOf_99 ic_3 ?_
      refine rx_aload_n C 0 dX11_limitOf_100 rfl rfl ?_
      refine rx_getC C (k := 17) sm_0 fc_X11 (by decide) 6 rfl lk_X11_64 dX11_limitOf_101 ?_
      refine rx_iload_n C 2 dX11_limitOf_104 rfl rfl ?_
      refine rx_iald C (n := 16) sm_6 dX11_limitOf_105 (fun _ => ?_)
      refine rx_iast C (n := 10) sm_34 dX11_limitOf_106 (fun _ => ?_)
      refine rx_lts (fun σ22 => ?_)
      refine rx_aload_n C 0 dX11_limitOf_107 rfl rfl ?_
      refine rx_getC C (k := 51) sm_0 fc_X11 (by decide) 34 rfl lk_X11_168 dX11_limitOf_108 ?_
      refine rx_iconst C dX11_limitOf_111 ic_4 ?_
      refine rx_aload_n C 0 dX11_limitOf_112 rfl rfl ?_
      refine rx_aload_n C 0 dX11_limitOf_113 rfl rfl ?_
      refine rx_getC C (k := 53) sm_0 fc_X11 (by decide) 35 rfl lk_X11_174 dX11_limitOf_114 ?_
      refine rx_iload_n C 1 dX11_limitOf_117 rfl rfl ?_
      refine rx_iald C (n := 8) sm_35 dX11_limitOf_118 (fun _ => ?_)
      refine rx_iconst C dX11_limitOf_119 ic_1 ?_
      refine rx_callVi C [.int (gI σ22 35 (ix x1)), .int (1 : Int32)] [.int (4 : Int32), .ref (α 34)] (m_X11_sumOf z.l C.inj (gI σ22 35 (ix x1)) (1 : Int32) σ22) mv_X11_sumOf lk_X11_442 sm_0 rfl rfl rfl (Nat.le_of_ble_eq_true rfl) ⟨Nat.le_of_ble_eq_true rfl, Nat.le_of_ble_eq_true rfl⟩ dX11_limitOf_120 (fun q23 => ?_)
      refine rx_iast C (n := 10) sm_34 dX11_limitOf_123 (fun _ => ?_)
      refine rx_lts (fun σ24 => ?_)
      refine rx_aload_n C 0 dX11_limitOf_124 rfl rfl ?_
      refine rx_getC C (k := 51) sm_0 fc_X11 (by decide) 34 rfl lk_X11_168 dX11_limitOf_125 ?_
      refine rx_iconst C dX11_limitOf_128 ic_5 ?_
      refine rx_aload_n C 0 dX11_limitOf_129 rfl rfl ?_
      refine rx_getC C (k := 53) sm_0 fc_X11 (by decide) 35 rfl lk_X11_174 dX11_limitOf_130 ?_
      refine rx_iload_n C 1 dX11_limitOf_133 rfl rfl ?_
      refine rx_iald C (n := 8) sm_35 dX11_limitOf_134 (fun _ => ?_)
      refine rx_callSi C [.int (gI σ24 35 (ix x1))] [.int (5 : Int32), .ref (α 34)] (m_X11_bitsOf z.l C.inj (gI σ24 35 (ix x1)) σ24) ms_X11_bitsOf lk_X11_452 rfl rfl (Nat.le_of_ble_eq_true rfl) ⟨Nat.le_of_ble_eq_true rfl, Nat.le_of_ble_eq_true rfl⟩ dX11_limitOf_135 (fun q25 => ?_)
      refine rx_iast C (n := 10) sm_34 dX11_limitOf_138 (fun _ => ?_)
      refine rx_lts (fun σ26 => ?_)
      refine rx_aload_n C 0 dX11_limitOf_139 rfl rfl ?_
      refine rx_getC C (k := 17) sm_0 fc_X11 (by decide) 6 rfl lk_X11_64 dX11_limitOf_140 ?_
      refine rx_iload_n C 2 dX11_limitOf_143 rfl rfl ?_
      refine rx_iald C (n := 16) sm_6 dX11_limitOf_144 (fun _ => ?_)
      refine rx_iload_n C 3 dX11_limitOf_145 rfl rfl ?_
      refine rx_imul C dX11_limitOf_146 ?_
      refine rx_bipush C dX11_limitOf_147 bp_100 ?_
      refine rx_idivC C dX11_limitOf_149 (by decide) ?_
      refine rx_i2l C dX11_limitOf_150 ?_
      refine rx_ltl (fun w27 => ?_)
      refine rx_lstore C [(4, .long w27), (0, .ref (α 0)), (1, .int x1), (2, .int x2), (3, .int x3)] dX11_limitOf_151 (by decide) rfl ?_
      refine rx_bipush C dX11_limitOf_153 bp_8 ?_
      refine rx_aload_n C 1 dX11_limitOf_155 rfl rfl ?_
      refine rx_getI C (k := 12) sm_0 fc_X11 (by decide) rfl lk_X11_48 dX11_limitOf_156 ?_
      refine rx_imul C dX11_limitOf_159 ?_
      refine rx_lti (fun w28 => ?_)
      refine rx_istore C [(6, .int w28), (4, .long w27), (0, .ref (α 0)), (1, .int x1), (2, .int x2), (3, .int x3)] dX11_limitOf_160 (by decide) rfl ?_
      exact RX.loc (w_X11_limitOf_162 C FU w27 w28 σ26) [2, 1, 0] rfl
    · refine rx_aload_n C 0 dX11_limitOf_44 rfl rfl ?_
      refine rx_getC C (k := 25) sm_0 fc_X11 (by decide) 14 rfl lk_X11_88 dX11_limitOf_45 ?_
      refine rx_iload C 4 dX11_limitOf_48 rfl ?_
      refine rx_iald C (n := 12) sm_14 dX11_limitOf_50 (fun _ => ?_)
      refine rx_aload_n C 0 dX11_limitOf_51 rfl rfl ?_
      refine rx_iload_n C 1 dX11_limitOf_52 rfl rfl ?_
      refine rx_callVi C [.int x1] [.int (gI σ 14 (ix x4))] (m_X11_ageOf z.l C.inj x1 σ) mv_X11_ageOf lk_X11_449 sm_0 rfl rfl rfl (Nat.le_of_ble_eq_true rfl) ⟨Nat.le_of_ble_eq_true rfl, Nat.le_of_ble_eq_true rfl⟩ dX11_limitOf_53 (fun q32 => ?_)
      refine rx_icmp_gt C (tgt := 69) dX11_limitOf_56 (by decide) (fun _ => ?_) (fun _ => ?_)
      · refine rx_iload_n C 3 dX11_limitOf_69 rfl rfl ?_
        exact RX.loc (w_X11_limitOf_70 C (f_X11_limitOf_22 n) hk_22 x1 x2 x4 x3 q32.2) [0, 1, 2, 4] rfl
      · refine rx_aload_n C 0 dX11_limitOf_59 rfl rfl ?_
        refine rx_getC C (k := 26) sm_0 fc_X11 (by decide) 15 rfl lk_X11_91 dX11_limitOf_60 ?_
        refine rx_iload C 4 dX11_limitOf_63 rfl ?_
        refine rx_iald C (n := 12) sm_15 dX11_limitOf_65 (fun _ => ?_)
        refine rx_goto C (tgt := 70) dX11_limitOf_66 (by decide) ?_
        exact RX.loc (w_X11_limitOf_70 C (f_X11_limitOf_22 n) hk_22 x1 x2 x4 (gI q32.2 15 (ix x4)) q32.2) [0, 1, 2, 4] rfl
set_option maxRecDepth 100000 in
set_option maxHeartbeats 4000000 in
theorem w_X11_limitOf_e {α : Nat → Nat} {D : va_G} {cA : Nat → ClassId} {z : Cz} (C : CX shM α D cA z RX11 cX11_limitOf 7 (some .int) 3 74) (x1 : Int32) (σ : St) : RX emI shM α D cA z 7 σ 0 [(0, .ref (α 0)), (1, .int x1)] [] (f_X11_limitOf x1 σ) := by
  unfold f_X11_limitOf
  refine rx_bipush C dX11_limitOf_0 bp_8 ?_
  refine rx_aload_n C 0 dX11_limitOf_2 rfl rfl ?_
  refine rx_getI C (k := 12) sm_0 fc_X11 (by decide) rfl lk_X11_48 dX11_limitOf_3 ?_
  refine rx_imul C dX11_limitOf_6 ?_
  refine rx_iload_n C 1 dX11_limitOf_7 rfl rfl ?_
  refine rx_iadd C dX11_limitOf_8 ?_
  refine rx_lti (fun w17 => ?_)
  refine rx_istore_n C [(2, .int w17), (0, .ref (α 0)), (1, .int x1)] dX11_limitOf_9 rfl (by decide) rfl ?_
  refine rx_bipush C dX11_limitOf_10 bp_100 ?_
  refine rx_istore_n C [(3, .int (100 : Int32)), (2, .int w17), (0, .ref (α 0)), (1, .int x1)] dX11_limitOf_12 rfl (by decide) rfl ?_
  refine rx_bipush C dX11_limitOf_13 bp_6 ?_
  refine rx_aload_n C 2 dX11_limitOf_15 rfl rfl ?_
  refine rx_getI C (k := 12) sm_0 fc_X11 (by decide) rfl lk_X11_48 dX11_limitOf_16 ?_
  refine rx_imul C dX11_limitOf_19 ?_
  refine rx_lti (fun w18 => ?_)
  refine rx_istore C [(4, .int w18), (3, .int (100 : Int32)), (2, .int w17), (0, .ref (α 0)), (1, .int x1)] dX11_limitOf_20 (by decide) rfl ?_
  exact RX.loc (w_X11_limitOf_22 C FU x1 w17 (100 : Int32) w18 σ) [3, 4, 2, 1, 0] rfl
theorem m_X11_limitOf (l : Launch) {α : Nat → Nat} {D : va_G} {cA : Nat → ClassId} (hin : inj shM.length α) (x1 : Int32) (σ : St) : CT shM l yX11_limitOf cX11_limitOf 7 (some .int) 3 74 emI α D cA [.ref (α 0), .int x1] σ (f_X11_limitOf x1 σ) := ct_of rfl (Nat.le_of_ble_eq_true rfl) hin (fun z _ C => w_X11_limitOf_e C x1 σ)
set_option maxRecDepth 100000 in
set_option maxHeartbeats 4000000 in
theorem w_X11_bestSet_92 {α : Nat → Nat} {D : va_G} {cA : Nat → ClassId} {z : Cz} (C : CX shM α D cA z RX11 cX11_bestSet 7 (some .int) 3 69) (k_8 : Int32 → Int32 → Int32 → Int32 → Int32 → St → Option (Int32 × St)) (hk_8 : ∀ (x1 : Int32) (x2 : Int32) (x3 : Int32) (x4 : Int32) (x5 : Int32) (σ : St), RX emI shM α D cA z 7 σ 8 [(0, .ref (α 0)), (1, .int x1), (2, .int x2), (3, .int x3), (4, .int x4), (5, .int x5)] [] (k_8 x1 x2 x3 x4 x5 σ)) (x1 : Int32) (x2 : Int32) (x3 : Int32) (x4 : Int32) (x5 : Int32) (σ : St) : RX emI shM α D cA z 7 σ 92 [(0, .ref (α 0)), (1, .int x1), (2, .int x2), (3, .int x3), (4, .int x4), (5, .int x5)] [] (f_X11_bestSet_92 k_8 x1 x2 x3 x4 x5 σ) := by
  unfold f_X11_bestSet_92
  refine rx_iinc C (k0 := 5) (v := x5 + (1 : Int32)) [(5, .int (x5 + (1 : Int32))), (0, .ref (α 0)), (1, .int x1), (2, .int x2), (3, .int x3), (4, .int x4)] dX11_bestSet_92 rfl (congrArg _ ic_1) (by decide) rfl ?_
  refine rx_goto C (tgt := 8) dX11_bestSet_95 (by decide) ?_
  exact RX.loc (hk_8 x1 x2 x3 x4 (x5 + (1 : Int32)) σ) [1, 2, 3, 4, 5, 0] rfl
set_option maxRecDepth 100000 in
set_option maxHeartbeats 4000000 in
theorem w_X11_bestSet_85 {α : Nat → Nat} {D : va_G} {cA : Nat → ClassId} {z : Cz} (C : CX shM α D cA z RX11 cX11_bestSet 7 (some .int) 3 69) (k_8 : Int32 → Int32 → Int32 → Int32 → Int32 → St → Option (Int32 × St)) (hk_8 : ∀ (x1 : Int32) (x2 : Int32) (x3 : Int32) (x4 : Int32) (x5 : Int32) (σ : St), RX emI shM α D cA z 7 σ 8 [(0, .ref (α 0)), (1, .int x1), (2, .int x2), (3, .int x3), (4, .int x4), (5, .int x5)] [] (k_8 x1 x2 x3 x4 x5 σ)) (x1 : Int32) (x2 : Int32) (x5 : Int32) (x6 : Int32) (σ : St) : RX emI shM α D cA z 7 σ 85 [(0, .ref (α 0)), (1, .int x1), (2, .int x2), (5, .int x5), (6, .int x6)] [] (f_X11_bestSet_85 k_8 x1 x2 x5 x6 σ) := by
  unfold f_X11_bestSet_85
  refine rx_iload C 3 dX11_bestSet_85 rfl ?_
  refine rx_istore_n C [(3, .int x5), (0, .ref (α 0)), (1, .int x1), (2, .int x2), (5, .int x5), (6, .int x6)] dX11_bestSet_87 rfl (by decide) rfl ?_
  refine rx_iload C 5 dX11_bestSet_88 rfl ?_
  refine rx_istore C [(4, .int x6), (3, .int x5), (0, .ref (α 0)), (1, .int x1), (2, .int x2), (5, .int x5), (6, .int x6)] dX11_bestSet_90 (by decide) rfl ?_
  exact RX.loc (w_X11_bestSet_92 C k_8 hk_8 x1 x2 x5 x6 x5 σ) [2, 3, 4, 1, 0, 5] rfl
set_option maxRecDepth 100000 in
set_option maxHeartbeats 4000000 in
theorem w_X11_bestSet_8 {α : Nat → Nat} {D : va_G} {cA : Nat → ClassId} {z : Cz} (C : CX shM α D cA z RX11 cX11_bestSet 7 (some .int) 3 69) : ∀ (n : Nat) (x1 : Int32) (x2 : Int32) (x3 : Int32) (x4 : Int32) (x5 : Int32) (σ : St), RX emI shM α D cA z 7 σ 8 [(0, .ref (α 0)), (1, .int x1), (2, .int x2), (3, .int x3), (4, .int x4), (5, .int x5)] [] (f_X11_bestSet_8 n x1 x2 x3 x4 x5 σ) := by
  intro n
  induction n with
  | zero => intros; exact rx_none
  | succ n hk_8 =>
    intro x1 x2 x3 x4 x5 σ
    rw [f_X11_bestSet_8.eq_2]
    refine rx_iload C 5 dX11_bestSet_8 rfl ?_
    refine rx_iconst C dX11_bestSet_10 ic_1 ?_
    refine rx_aload_n C 0 dX11_bestSet_11 rfl rfl ?_
    refine rx_getC C (k := 20) sm_0 fc_X11 (by decide) 9 rfl lk_X11_73 dX11_bestSet_12 ?_
    refine rx_aload_n C 0 dX11_bestSet_15 rfl rfl ?_
    refine rx_getI C (k := 12) sm_0 fc_X11 (by decide) rfl lk_X11_48 dX11_bestSet_16 ?_
    refine rx_iald C (n := 2) sm_9 dX11_bestSet_19 (fun _ => ?_)
    refine rx_ishl C dX11_bestSet_20 ?_
    refine rx_icmp_ge C (tgt := 98) dX11_bestSet_21 (by decide) (fun _ => ?_) (fun _ => ?_)
    · refine rx_iload_n C 3 dX11_bestSet_98 rfl rfl ?_
      exact rx_iret C dX11_bestSet_99
    · refine rx_iload C 5 dX11_bestSet_24 rfl ?_
      refine rx_iload_n C 1 dX11_bestSet_26 rfl rfl ?_
      refine rx_iand C dX11_bestSet_27 ?_
      refine rx_iload C 5 dX11_bestSet_28 rfl ?_
      refine rx_icmp_ne C (tgt := 92) dX11_bestSet_30 (by decide) (fun _ => ?_) (fun _ => ?_)
      · refine rx_aload_n C 0 dX11_bestSet_33 rfl rfl ?_
        refine rx_iload C 5 dX11_bestSet_34 rfl ?_
        refine rx_iconst C dX11_bestSet_36 ic_0 ?_
        refine rx_callVi C [.int x5, .int (0 : Int32)] [] (m_X11_sumOf z.l C.inj x5 (0 : Int32) σ) mv_X11_sumOf lk_X11_442 sm_0 rfl rfl rfl (Nat.le_of_ble_eq_true rfl) ⟨Nat.le_of_ble_eq_true rfl, Nat.le_of_ble_eq_true rfl⟩ dX11_bestSet_37 (fun q5 => ?_)
        refine rx_iload_n C 2 dX11_bestSet_40 rfl rfl ?_
        refine rx_icmp_le C (tgt := 47) dX11_bestSet_41 (by decide) (fun _ => ?_) (fun _ => ?_)
        · refine rx_aload_n C 0 dX11_bestSet_47 rfl rfl ?_
          refine rx_iload C 5 dX11_bestSet_48 rfl ?_
          refine rx_iconst C dX11_bestSet_50 ic_1 ?_
          refine rx_callVi C [.int x5, .int (1 : Int32)] [] (m_X11_sumOf z.l C.inj x5 (1 : Int32) q5.2) mv_X11_sumOf lk_X11_442 sm_0 rfl rfl rfl (Nat.le_of_ble_eq_true rfl) ⟨Nat.le_of_ble_eq_true rfl, Nat.le_of_ble_eq_true rfl⟩ dX11_bestSet_51 (fun q6 => ?_)
          refine rx_istore C [(6, .int q6.1), (0, .ref (α 0)), (1, .int x1), (2, .int x2), (3, .int x3), (4, .int x4), (5, .int x5)] dX11_bestSet_54 (by decide) rfl ?_
          refine rx_iload C 0 dX11_bestSet_56 rfl ?_
          refine rx_iload C 5 dX11_bestSet_58 rfl ?_
          refine rx_icmp_lt C (tgt := 92) dX11_bestSet_60 (by decide) (fun _ => ?_) (fun _ => ?_)
          · exact RX.loc (w_X11_bestSet_92 C (f_X11_bestSet_8 n) hk_8 x1 x2 x3 x4 x5 q6.2) [1, 2, 3, 4, 5, 6] rfl
          · refine rx_iload C 0 dX11_bestSet_63 rfl ?_
            refine rx_iload C 5 dX11_bestSet_65 rfl ?_
            refine rx_icmp_ne C (tgt := 85) dX11_bestSet_67 (by decide) (fun _ => ?_) (fun _ => ?_)
            · refine rx_iload C 6 dX11_bestSet_70 rfl ?_
              refine rx_callSi C [.int x5] [] (m_X11_bitsOf z.l C.inj x5 q6.2) ms_X11_bitsOf lk_X11_452 rfl rfl (Nat.le_of_ble_eq_true rfl) ⟨Nat.le_of_ble_eq_true rfl, Nat.le_of_ble_eq_true rfl⟩ dX11_bestSet_72 (fun q7 => ?_)
              refine rx_iload_n C 4 dX11_bestSet_75 rfl rfl ?_
              refine rx_callSi C [.int x3] [.int q7.1] (m_X11_bitsOf z.l C.inj x3 q7.2) ms_X11_bitsOf lk_X11_452 rfl rfl (Nat.le_of_ble_eq_true rfl) ⟨Nat.le_of_ble_eq_true rfl, Nat.le_of_ble_eq_true rfl⟩ dX11_bestSet_76 (fun q8 => ?_)
              refine rx_icmp_lt C (tgt := 85) dX11_bestSet_79 (by decide) (fun _ => ?_) (fun _ => ?_)
              · exact RX.loc (w_X11_bestSet_85 C (f_X11_bestSet_8 n) hk_8 x1 x2 x5 q6.1 q8.2) [1, 2, 3, 6, 0] rfl
              · refine rx_goto C (tgt := 92) dX11_bestSet_82 (by decide) ?_
                exact RX.loc (w_X11_bestSet_92 C (f_X11_bestSet_8 n) hk_8 x1 x2 x3 x4 x5 q8.2) [1, 2, 3, 4, 5, 6] rfl
            · exact RX.loc (w_X11_bestSet_85 C (f_X11_bestSet_8 n) hk_8 x1 x2 x5 q6.1 q6.2) [1, 2, 3, 6, 0] rfl
        · refine rx_goto C (tgt := 92) dX11_bestSet_44 (by decide) ?_
          exact RX.loc (w_X11_bestSet_92 C (f_X11_bestSet_8 n) hk_8 x1 x2 x3 x4 x5 q5.2) [0, 1, 2, 3, 4, 5] rfl
      · exact RX.loc (w_X11_bestSet_92 C (f_X11_bestSet_8 n) hk_8 x1 x2 x3 x4 x5 σ) [0, 1, 2, 3, 4, 5] rfl
set_option maxRecDepth 100000 in
set_option maxHeartbeats 4000000 in
theorem w_X11_bestSet_e {α : Nat → Nat} {D : va_G} {cA : Nat → ClassId} {z : Cz} (C : CX shM α D cA z RX11 cX11_bestSet 7 (some .int) 3 69) (x1 : Int32) (x2 : Int32) (σ : St) : RX emI shM α D cA z 7 σ 0 [(0, .ref (α 0)), (1, .int x1), (2, .int x2)] [] (f_X11_bestSet x1 x2 σ) := by
  unfold f_X11_bestSet
  refine rx_iconst C dX11_bestSet_0 ic_0 ?_
  refine rx_istore_n C [(3, .int (0 : Int32)), (0, .ref (α 0)), (1, .int x1), (2, .int x2)] dX11_bestSet_1 rfl (by decide) rfl ?_
  refine rx_iconst C dX11_bestSet_2 ic_0 ?_
  refine rx_istore C [(4, .int (0 : Int32)), (3, .int (0 : Int32)), (0, .ref (α 0)), (1, .int x1), (2, .int x2)] dX11_bestSet_3 (by decide) rfl ?_
  refine rx_iconst C dX11_bestSet_5 ic_1 ?_
  refine rx_istore C [(5, .int (1 : Int32)), (4, .int (0 : Int32)), (3, .int (0 : Int32)), (0, .ref (α 0)), (1, .int x1), (2, .int x2)] dX11_bestSet_6 (by decide) rfl ?_
  exact RX.loc (w_X11_bestSet_8 C FU x1 x2 (0 : Int32) (0 : Int32) (1 : Int32) σ) [3, 4, 5, 2, 1, 0] rfl
theorem m_X11_bestSet (l : Launch) {α : Nat → Nat} {D : va_G} {cA : Nat → ClassId} (hin : inj shM.length α) (x1 : Int32) (x2 : Int32) (σ : St) : CT shM l yX11_bestSet cX11_bestSet 7 (some .int) 3 69 emI α D cA [.ref (α 0), .int x1, .int x2] σ (f_X11_bestSet x1 x2 σ) := ct_of rfl (Nat.le_of_ble_eq_true rfl) hin (fun z _ C => w_X11_bestSet_e C x1 x2 σ)
set_option maxRecDepth 100000 in
set_option maxHeartbeats 4000000 in
theorem w_X11_has_e {α : Nat → Nat} {D : va_G} {cA : Nat → ClassId} {z : Cz} (C : CX shM α D cA z RX11 cX11_has 2 (some .int) 0 0) (x1 : Int32) (σ : St) : RX emI shM α D cA z 2 σ 0 [(0, .ref (α 0)), (1, .int x1)] [] (f_X11_has x1 σ) := by
  unfold f_X11_has
  refine rx_iload_n C 1 dX11_has_0 rfl rfl ?_
  refine rx_if (fun hs10 => ?_) (fun hs10 => ?_)
  · refine rx_tableIn C (tgt := 52) (0 : Int32) hs10 dX11_has_1 (by decide) (by decide) rfl (by decide) ?_
    refine rx_aload_n C 0 dX11_has_52 rfl rfl ?_
    refine rx_getC C (k := 14) sm_0 fc_X11 (by decide) 3 rfl lk_X11_54 dX11_has_53 ?_
    refine rx_aload_n C 0 dX11_has_56 rfl rfl ?_
    refine rx_getI C (k := 12) sm_0 fc_X11 (by decide) rfl lk_X11_48 dX11_has_57 ?_
    refine rx_iald C (n := 2) sm_3 dX11_has_60 (fun _ => ?_)
    exact rx_iret C dX11_has_61
  refine rx_if (fun hs11 => ?_) (fun hs11 => ?_)
  · refine rx_tableIn C (tgt := 62) (1 : Int32) hs11 dX11_has_1 (by decide) (by decide) rfl (by decide) ?_
    refine rx_aload_n C 0 dX11_has_62 rfl rfl ?_
    refine rx_getC C (k := 20) sm_0 fc_X11 (by decide) 9 rfl lk_X11_73 dX11_has_63 ?_
    refine rx_aload_n C 0 dX11_has_66 rfl rfl ?_
    refine rx_getI C (k := 12) sm_0 fc_X11 (by decide) rfl lk_X11_48 dX11_has_67 ?_
    refine rx_iald C (n := 2) sm_9 dX11_has_70 (fun _ => ?_)
    exact rx_iret C dX11_has_71
  refine rx_if (fun hs12 => ?_) (fun hs12 => ?_)
  · refine rx_tableIn C (tgt := 72) (2 : Int32) hs12 dX11_has_1 (by decide) (by decide) rfl (by decide) ?_
    refine rx_aload_n C 0 dX11_has_72 rfl rfl ?_
    refine rx_getC C (k := 24) sm_0 fc_X11 (by decide) 13 rfl lk_X11_85 dX11_has_73 ?_
    refine rx_aload_n C 0 dX11_has_76 rfl rfl ?_
    refine rx_getI C (k := 12) sm_0 fc_X11 (by decide) rfl lk_X11_48 dX11_has_77 ?_
    refine rx_iald C (n := 2) sm_13 dX11_has_80 (fun _ => ?_)
    exact rx_iret C dX11_has_81
  refine rx_if (fun hs13 => ?_) (fun hs13 => ?_)
  · refine rx_tableIn C (tgt := 82) (3 : Int32) hs13 dX11_has_1 (by decide) (by decide) rfl (by decide) ?_
    refine rx_aload_n C 0 dX11_has_82 rfl rfl ?_
    refine rx_getC C (k := 27) sm_0 fc_X11 (by decide) 16 rfl lk_X11_94 dX11_has_83 ?_
    refine rx_aload_n C 0 dX11_has_86 rfl rfl ?_
    refine rx_getI C (k := 12) sm_0 fc_X11 (by decide) rfl lk_X11_48 dX11_has_87 ?_
    refine rx_iald C (n := 2) sm_16 dX11_has_90 (fun _ => ?_)
    exact rx_iret C dX11_has_91
  refine rx_if (fun hs14 => ?_) (fun hs14 => ?_)
  · refine rx_tableIn C (tgt := 92) (4 : Int32) hs14 dX11_has_1 (by decide) (by decide) rfl (by decide) ?_
    refine rx_aload_n C 0 dX11_has_92 rfl rfl ?_
    refine rx_getC C (k := 31) sm_0 fc_X11 (by decide) 20 rfl lk_X11_106 dX11_has_93 ?_
    refine rx_aload_n C 0 dX11_has_96 rfl rfl ?_
    refine rx_getI C (k := 12) sm_0 fc_X11 (by decide) rfl lk_X11_48 dX11_has_97 ?_
    refine rx_iald C (n := 2) sm_20 dX11_has_100 (fun _ => ?_)
    exact rx_iret C dX11_has_101
  refine rx_if (fun hs15 => ?_) (fun hs15 => ?_)
  · refine rx_tableIn C (tgt := 102) (5 : Int32) hs15 dX11_has_1 (by decide) (by decide) rfl (by decide) ?_
    refine rx_aload_n C 0 dX11_has_102 rfl rfl ?_
    refine rx_getI C (k := 52) sm_0 fc_X11 (by decide) rfl lk_X11_171 dX11_has_103 ?_
    exact rx_iret C dX11_has_106
  refine rx_if (fun hs16 => ?_) (fun hs16 => ?_)
  · refine rx_tableIn C (tgt := 107) (6 : Int32) hs16 dX11_has_1 (by decide) (by decide) rfl (by decide) ?_
    refine rx_aload_n C 0 dX11_has_107 rfl rfl ?_
    refine rx_getI C (k := 56) sm_0 fc_X11 (by decide) rfl lk_X11_183 dX11_has_108 ?_
    exact rx_iret C dX11_has_111
  refine rx_if (fun hs17 => ?_) (fun hs17 => ?_)
  · refine rx_tableIn C (tgt := 112) (7 : Int32) hs17 dX11_has_1 (by decide) (by decide) rfl (by decide) ?_
    refine rx_aload_n C 0 dX11_has_112 rfl rfl ?_
    refine rx_getI C (k := 60) sm_0 fc_X11 (by decide) rfl lk_X11_195 dX11_has_113 ?_
    exact rx_iret C dX11_has_116
  refine rx_if (fun hs18 => ?_) (fun hs18 => ?_)
  · refine rx_tableIn C (tgt := 117) (8 : Int32) hs18 dX11_has_1 (by decide) (by decide) rfl (by decide) ?_
    refine rx_aload_n C 0 dX11_has_117 rfl rfl ?_
    refine rx_getI C (k := 62) sm_0 fc_X11 (by decide) rfl lk_X11_201 dX11_has_118 ?_
    exact rx_iret C dX11_has_121
  refine rx_tableOut C (tgt := 122) dX11_has_1 (by have := lv_neT (a := 0) hs10 (by decide); have := lv_neT (a := 1) hs11 (by decide); have := lv_neT (a := 2) hs12 (by decide); have := lv_neT (a := 3) hs13 (by decide); have := lv_neT (a := 4) hs14 (by decide); have := lv_neT (a := 5) hs15 (by decide); have := lv_neT (a := 6) hs16 (by decide); have := lv_neT (a := 7) hs17 (by decide); have := lv_neT (a := 8) hs18 (by decide); omega) (by decide) ?_
  refine rx_iconst C dX11_has_122 ic_m1 ?_
  exact rx_iret C dX11_has_123
theorem m_X11_has (l : Launch) {α : Nat → Nat} {D : va_G} {cA : Nat → ClassId} (hin : inj shM.length α) (x1 : Int32) (σ : St) : CT shM l yX11_has cX11_has 2 (some .int) 0 0 emI α D cA [.ref (α 0), .int x1] σ (f_X11_has x1 σ) := ct_of rfl (Nat.le_of_ble_eq_true rfl) hin (fun z _ C => w_X11_has_e C x1 σ)
set_option maxRecDepth 100000 in
set_option maxHeartbeats 4000000 in
theorem w_X11_manyOf_42 {α : Nat → Nat} {D : va_G} {cA : Nat → ClassId} {z : Cz} (C : CX shM α D cA z RX11 cX11_manyOf 2 (some .int) 0 0) (s0 : Int32) (σ : St) : RX emI shM α D cA z 2 σ 42 [] [.int s0] (f_X11_manyOf_42 s0 σ) := by
  unfold f_X11_manyOf_42
  exact rx_iret C dX11_manyOf_42
set_option maxRecDepth 100000 in
set_option maxHeartbeats 4000000 in
theorem w_X11_manyOf_e {α : Nat → Nat} {D : va_G} {cA : Nat → ClassId} {z : Cz} (C : CX shM α D cA z RX11 cX11_manyOf 2 (some .int) 0 0) (x1 : Int32) (σ : St) : RX emI shM α D cA z 2 σ 0 [(0, .ref (α 0)), (1, .int x1)] [] (f_X11_manyOf x1 σ) := by
  unfold f_X11_manyOf
  refine rx_iload_n C 1 dX11_manyOf_0 rfl rfl ?_
  refine rx_if_ne C (tgt := 16) dX11_manyOf_1 (by decide) (fun _ => ?_) (fun _ => ?_)
  · refine rx_aload_n C 0 dX11_manyOf_4 rfl rfl ?_
    refine rx_getC C (k := 14) sm_0 fc_X11 (by decide) 3 rfl lk_X11_54 dX11_manyOf_5 ?_
    refine rx_aload_n C 0 dX11_manyOf_8 rfl rfl ?_
    refine rx_getI C (k := 12) sm_0 fc_X11 (by decide) rfl lk_X11_48 dX11_manyOf_9 ?_
    refine rx_iald C (n := 2) sm_3 dX11_manyOf_12 (fun _ => ?_)
    refine rx_goto C (tgt := 42) dX11_manyOf_13 (by decide) ?_
    exact RX.loc (w_X11_manyOf_42 C (gI σ 3 (ix (gI σ 0 12))) σ) [] rfl
  · refine rx_iload_n C 1 dX11_manyOf_16 rfl rfl ?_
    refine rx_iconst C dX11_manyOf_17 ic_1 ?_
    refine rx_icmp_ne C (tgt := 33) dX11_manyOf_18 (by decide) (fun _ => ?_) (fun _ => ?_)
    · refine rx_aload_n C 0 dX11_manyOf_21 rfl rfl ?_
      refine rx_getC C (k := 20) sm_0 fc_X11 (by decide) 9 rfl lk_X11_73 dX11_manyOf_22 ?_
      refine rx_aload_n C 0 dX11_manyOf_25 rfl rfl ?_
      refine rx_getI C (k := 12) sm_0 fc_X11 (by decide) rfl lk_X11_48 dX11_manyOf_26 ?_
      refine rx_iald C (n := 2) sm_9 dX11_manyOf_29 (fun _ => ?_)
      refine rx_goto C (tgt := 42) dX11_manyOf_30 (by decide) ?_
      exact RX.loc (w_X11_manyOf_42 C (gI σ 9 (ix (gI σ 0 12))) σ) [] rfl
    · refine rx_aload_n C 0 dX11_manyOf_33 rfl rfl ?_
      refine rx_getC C (k := 31) sm_0 fc_X11 (by decide) 20 rfl lk_X11_106 dX11_manyOf_34 ?_
      refine rx_aload_n C 0 dX11_manyOf_37 rfl rfl ?_
      refine rx_getI C (k := 12) sm_0 fc_X11 (by decide) rfl lk_X11_48 dX11_manyOf_38 ?_
      refine rx_iald C (n := 2) sm_20 dX11_manyOf_41 (fun _ => ?_)
      exact RX.loc (w_X11_manyOf_42 C (gI σ 20 (ix (gI σ 0 12))) σ) [] rfl
theorem m_X11_manyOf (l : Launch) {α : Nat → Nat} {D : va_G} {cA : Nat → ClassId} (hin : inj shM.length α) (x1 : Int32) (σ : St) : CT shM l yX11_manyOf cX11_manyOf 2 (some .int) 0 0 emI α D cA [.ref (α 0), .int x1] σ (f_X11_manyOf x1 σ) := ct_of rfl (Nat.le_of_ble_eq_true rfl) hin (fun z _ C => w_X11_manyOf_e C x1 σ)
set_option maxRecDepth 100000 in
set_option maxHeartbeats 4000000 in
theorem w_X11_letter_24 {α : Nat → Nat} {D : va_G} {cA : Nat → ClassId} {z : Cz} (C : CX shM α D cA z RX11 cX11_letter 9 (some .int) 1 23) (σ : St) : RX emI shM α D cA z 9 σ 24 [] [] (f_X11_letter_24 σ) := by
  unfold f_X11_letter_24
  refine rx_iconst C dX11_letter_24 ic_m1 ?_
  exact rx_iret C dX11_letter_25
set_option maxRecDepth 100000 in
set_option maxHeartbeats 4000000 in
theorem w_X11_letter_96 {α : Nat → Nat} {D : va_G} {cA : Nat → ClassId} {z : Cz} (C : CX shM α D cA z RX11 cX11_letter 9 (some .int) 1 23) (s0 : Int32) (σ : St) : RX emI shM α D cA z 9 σ 96 [] [.int s0] (f_X11_letter_96 s0 σ) := by
  unfold f_X11_letter_96
  exact rx_iret C dX11_letter_96
set_option maxRecDepth 100000 in
set_option maxHeartbeats 4000000 in
theorem w_X11_letter_75 {α : Nat → Nat} {D : va_G} {cA : Nat → ClassId} {z : Cz} (C : CX shM α D cA z RX11 cX11_letter 9 (some .int) 1 23) (σ : St) : RX emI shM α D cA z 9 σ 75 [] [] (f_X11_letter_75 σ) := by
  unfold f_X11_letter_75
  refine rx_iconst C dX11_letter_75 ic_m1 ?_
  refine rx_goto C (tgt := 96) dX11_letter_76 (by decide) ?_
  exact RX.loc (w_X11_letter_96 C (-1 : Int32) σ) [] rfl
set_option maxRecDepth 100000 in
set_option maxHeartbeats 4000000 in
theorem w_X11_letter_45 {α : Nat → Nat} {D : va_G} {cA : Nat → ClassId} {z : Cz} (C : CX shM α D cA z RX11 cX11_letter 9 (some .int) 1 23) : ∀ (n : Nat) (x3 : Int32) (y4 : Int64) (x6 : Int32) (y7 : Int64) (σ : St), RX emI shM α D cA z 9 σ 45 [(3, .int x3), (4, .long y4), (6, .int x6), (7, .long y7)] [] (f_X11_letter_45 n x3 y4 x6 y7 σ) := by
  intro n
  induction n with
  | zero => intros; exact rx_none
  | succ n hk_45 =>
    intro x3 y4 x6 y7 σ
    rw [f_X11_letter_45.eq_2]
    refine rx_lload C 3 dX11_letter_45 rfl ?_
    refine rx_lconst C dX11_letter_47 lc_0 ?_
    refine rx_lcmp C dX11_letter_48 ?_
    refine rx_if_eq C (tgt := 65) dX11_letter_49 (by decide) (fun _ => ?_) (fun _ => ?_)
    · refine rx_iload_n C 0 dX11_letter_65 rfl rfl ?_
      refine rx_if_lt C (tgt := 75) dX11_letter_66 (by decide) (fun _ => ?_) (fun _ => ?_)
      · exact RX.loc (w_X11_letter_75 C σ) [] rfl
      · refine rx_iload_n C 0 dX11_letter_69 rfl rfl ?_
        refine rx_iload C 2 dX11_letter_70 rfl ?_
        refine rx_icmp_lt C (tgt := 79) dX11_letter_72 (by decide) (fun _ => ?_) (fun _ => ?_)
        · refine rx_lload C 1 dX11_letter_79 rfl ?_
          refine rx_bipush C dX11_letter_81 bp_8 ?_
          refine rx_iload C 2 dX11_letter_83 rfl ?_
          refine rx_iconst C dX11_letter_85 ic_1 ?_
          refine rx_isub C dX11_letter_86 ?_
          refine rx_iload_n C 0 dX11_letter_87 rfl rfl ?_
          refine rx_isub C dX11_letter_88 ?_
          refine rx_imul C dX11_letter_89 ?_
          refine rx_lushr C dX11_letter_90 ?_
          refine rx_ldc2_w C lk_X11_351 dX11_letter_91 ?_
          refine rx_land C dX11_letter_94 ?_
          refine rx_l2i C dX11_letter_95 ?_
          exact RX.loc (w_X11_letter_96 C (((jlush y4 ((8 : Int32) * ((x6 - (1 : Int32)) - x3))) &&& (255 : Int64)).toInt32) σ) [] rfl
        · exact RX.loc (w_X11_letter_75 C σ) [] rfl
    · refine rx_iinc C (k0 := 2) (v := x6 + (1 : Int32)) [(6, .int (x6 + (1 : Int32))), (3, .int x3), (4, .long y4), (7, .long y7)] dX11_letter_52 rfl (congrArg _ ic_1) (by decide) rfl ?_
      refine rx_lload C 3 dX11_letter_55 rfl ?_
      refine rx_bipush C dX11_letter_57 bp_8 ?_
      refine rx_lushr C dX11_letter_59 ?_
      refine rx_ltl (fun w10 => ?_)
      refine rx_lstore C [(7, .long w10), (6, .int (x6 + (1 : Int32))), (3, .int x3), (4, .long y4)] dX11_letter_60 (by decide) rfl ?_
      refine rx_goto C (tgt := 45) dX11_letter_62 (by decide) ?_
      exact RX.loc (hk_45 x3 y4 (x6 + (1 : Int32)) w10 σ) [2, 3, 1, 0] rfl
set_option maxRecDepth 100000 in
set_option maxHeartbeats 4000000 in
theorem w_X11_letter_e {α : Nat → Nat} {D : va_G} {cA : Nat → ClassId} {z : Cz} (C : CX shM α D cA z RX11 cX11_letter 9 (some .int) 1 23) (x1 : Int32) (x2 : Int32) (x3 : Int32) (σ : St) : RX emI shM α D cA z 9 σ 0 [(0, .ref (α 0)), (1, .int x1), (2, .int x2), (3, .int x3)] [] (f_X11_letter x1 x2 x3 σ) := by
  unfold f_X11_letter
  refine rx_iload_n C 1 dX11_letter_0 rfl rfl ?_
  refine rx_iconst C dX11_letter_1 ic_0 ?_
  refine rx_iconst C dX11_letter_2 ic_2 ?_
  refine rx_callSi C [.int x1, .int (0 : Int32), .int (2 : Int32)] [] (m_X11_is z.l C.inj x1 (0 : Int32) (2 : Int32) σ) ms_X11_is lk_X11_309 rfl rfl (Nat.le_of_ble_eq_true rfl) ⟨Nat.le_of_ble_eq_true rfl, Nat.le_of_ble_eq_true rfl⟩ dX11_letter_3 (fun q6 => ?_)
  refine rx_if_eq C (tgt := 24) dX11_letter_6 (by decide) (fun _ => ?_) (fun _ => ?_)
  · exact RX.loc (w_X11_letter_24 C q6.2) [] rfl
  · refine rx_iload_n C 2 dX11_letter_9 rfl rfl ?_
    refine rx_iconst C dX11_letter_10 ic_0 ?_
    refine rx_aload_n C 0 dX11_letter_11 rfl rfl ?_
    refine rx_iload_n C 1 dX11_letter_12 rfl rfl ?_
    refine rx_callVi C [.int x1] [.int (0 : Int32), .int x2] (m_X11_manyOf z.l C.inj x1 q6.2) mv_X11_manyOf lk_X11_461 sm_0 rfl rfl rfl (Nat.le_of_ble_eq_true rfl) ⟨Nat.le_of_ble_eq_true rfl, Nat.le_of_ble_eq_true rfl⟩ dX11_letter_13 (fun q7 => ?_)
    refine rx_iconst C dX11_letter_16 ic_1 ?_
    refine rx_isub C dX11_letter_17 ?_
    refine rx_callSi C [.int x2, .int (0 : Int32), .int (q7.1 - (1 : Int32))] [] (m_X11_is z.l C.inj x2 (0 : Int32) (q7.1 - (1 : Int32)) q7.2) ms_X11_is lk_X11_309 rfl rfl (Nat.le_of_ble_eq_true rfl) ⟨Nat.le_of_ble_eq_true rfl, Nat.le_of_ble_eq_true rfl⟩ dX11_letter_18 (fun q8 => ?_)
    refine rx_if_ne C (tgt := 26) dX11_letter_21 (by decide) (fun _ => ?_) (fun _ => ?_)
    · exact RX.loc (w_X11_letter_24 C q8.2) [] rfl
    · refine rx_aload_n C 0 dX11_letter_26 rfl rfl ?_
      refine rx_aload_n C 0 dX11_letter_27 rfl rfl ?_
      refine rx_getI C (k := 12) sm_0 fc_X11 (by decide) rfl lk_X11_48 dX11_letter_28 ?_
      refine rx_iload_n C 1 dX11_letter_31 rfl rfl ?_
      refine rx_iload_n C 2 dX11_letter_32 rfl rfl ?_
      refine rx_callVl C [.int (gI q8.2 0 12), .int x1, .int x2] [] (m_X11_nameOf z.l C.inj (gI q8.2 0 12) x1 x2 q8.2) mv_X11_nameOf lk_X11_305 sm_0 rfl rfl rfl (Nat.le_of_ble_eq_true rfl) ⟨Nat.le_of_ble_eq_true rfl, Nat.le_of_ble_eq_true rfl⟩ dX11_letter_33 (fun q9 => ?_)
      refine rx_lstore C [(4, .long q9.1), (0, .ref (α 0)), (1, .int x1), (2, .int x2), (3, .int x3)] dX11_letter_36 (by decide) rfl ?_
      refine rx_iconst C dX11_letter_38 ic_0 ?_
      refine rx_istore C [(6, .int (0 : Int32)), (4, .long q9.1), (0, .ref (α 0)), (1, .int x1), (2, .int x2), (3, .int x3)] dX11_letter_39 (by decide) rfl ?_
      refine rx_lload C 1 dX11_letter_41 rfl ?_
      refine rx_lstore C [(7, .long q9.1), (6, .int (0 : Int32)), (4, .long q9.1), (0, .ref (α 0)), (1, .int x1), (2, .int x2), (3, .int x3)] dX11_letter_43 (by decide) rfl ?_
      exact RX.loc (w_X11_letter_45 C FU x3 q9.1 (0 : Int32) q9.1 q9.2) [6, 2, 1, 0] rfl
theorem m_X11_letter (l : Launch) {α : Nat → Nat} {D : va_G} {cA : Nat → ClassId} (hin : inj shM.length α) (x1 : Int32) (x2 : Int32) (x3 : Int32) (σ : St) : CT shM l yX11_letter cX11_letter 9 (some .int) 1 23 emI α D cA [.ref (α 0), .int x1, .int x2, .int x3] σ (f_X11_letter x1 x2 x3 σ) := ct_of rfl (Nat.le_of_ble_eq_true rfl) hin (fun z _ C => w_X11_letter_e C x1 x2 x3 σ)
set_option maxRecDepth 100000 in
set_option maxHeartbeats 4000000 in
theorem w_X11_ounces_19 {α : Nat → Nat} {D : va_G} {cA : Nat → ClassId} {z : Cz} (C : CX shM α D cA z RX11 cX11_ounces 2 (some .int) 2 42) (s0 : Int32) (σ : St) : RX emI shM α D cA z 2 σ 19 [] [.int s0] (f_X11_ounces_19 s0 σ) := by
  unfold f_X11_ounces_19
  exact rx_iret C dX11_ounces_19
set_option maxRecDepth 100000 in
set_option maxHeartbeats 4000000 in
theorem w_X11_ounces_e {α : Nat → Nat} {D : va_G} {cA : Nat → ClassId} {z : Cz} (C : CX shM α D cA z RX11 cX11_ounces 2 (some .int) 2 42) (x1 : Int32) (σ : St) : RX emI shM α D cA z 2 σ 0 [(0, .ref (α 0)), (1, .int x1)] [] (f_X11_ounces x1 σ) := by
  unfold f_X11_ounces
  refine rx_iload_n C 1 dX11_ounces_0 rfl rfl ?_
  refine rx_callSi C [.int x1] [] (m_X11_isLetterCode z.l C.inj x1 σ) ms_X11_isLetterCode lk_X11_464 rfl rfl (Nat.le_of_ble_eq_true rfl) ⟨Nat.le_of_ble_eq_true rfl, Nat.le_of_ble_eq_true rfl⟩ dX11_ounces_1 (fun q3 => ?_)
  refine rx_if_eq C (tgt := 18) dX11_ounces_4 (by decide) (fun _ => ?_) (fun _ => ?_)
  · refine rx_iconst C dX11_ounces_18 ic_m1 ?_
    exact RX.loc (w_X11_ounces_19 C (-1 : Int32) q3.2) [] rfl
  · refine rx_aload_n C 0 dX11_ounces_7 rfl rfl ?_
    refine rx_iload_n C 1 dX11_ounces_8 rfl rfl ?_
    refine rx_bipush C dX11_ounces_9 bp_97 ?_
    refine rx_isub C dX11_ounces_11 ?_
    refine rx_callVi C [.int (x1 - (97 : Int32))] [] (m_X11_weight z.l C.inj (x1 - (97 : Int32)) q3.2) mv_X11_weight lk_X11_433 sm_0 rfl rfl rfl (Nat.le_of_ble_eq_true rfl) ⟨Nat.le_of_ble_eq_true rfl, Nat.le_of_ble_eq_true rfl⟩ dX11_ounces_12 (fun q4 => ?_)
    refine rx_goto C (tgt := 19) dX11_ounces_15 (by decide) ?_
    exact RX.loc (w_X11_ounces_19 C q4.1 q4.2) [] rfl
theorem m_X11_ounces (l : Launch) {α : Nat → Nat} {D : va_G} {cA : Nat → ClassId} (hin : inj shM.length α) (x1 : Int32) (σ : St) : CT shM l yX11_ounces cX11_ounces 2 (some .int) 2 42 emI α D cA [.ref (α 0), .int x1] σ (f_X11_ounces x1 σ) := ct_of rfl (Nat.le_of_ble_eq_true rfl) hin (fun z _ C => w_X11_ounces_e C x1 σ)
set_option maxRecDepth 100000 in
set_option maxHeartbeats 4000000 in
theorem w_X11_title__104 {α : Nat → Nat} {D : va_G} {cA : Nat → ClassId} {z : Cz} (C : CX shM α D cA z RX11 cX11_title_ 5 (some .int) 2 45) (s0 : Int32) (σ : St) : RX emI shM α D cA z 5 σ 104 [] [.int s0] (f_X11_title__104 s0 σ) := by
  unfold f_X11_title__104
  exact rx_iret C dX11_title__104
set_option maxRecDepth 100000 in
set_option maxHeartbeats 4000000 in
theorem w_X11_title__48 {α : Nat → Nat} {D : va_G} {cA : Nat → ClassId} {z : Cz} (C : CX shM α D cA z RX11 cX11_title_ 5 (some .int) 2 45) (k_15 : Int32 → Int32 → Int32 → Int32 → St → Option (Int32 × St)) (hk_15 : ∀ (x1 : Int32) (x2 : Int32) (x3 : Int32) (x4 : Int32) (σ : St), RX emI shM α D cA z 5 σ 15 [(0, .ref (α 0)), (1, .int x1), (2, .int x2), (3, .int x3), (4, .int x4)] [] (k_15 x1 x2 x3 x4 σ)) (x1 : Int32) (x2 : Int32) (x4 : Int32) (s1 : Int32) (s0 : Int32) (σ : St) : RX emI shM α D cA z 5 σ 48 [(0, .ref (α 0)), (1, .int x1), (2, .int x2), (4, .int x4)] [.int s1, .int s0] (f_X11_title__48 k_15 x1 x2 x4 s1 s0 σ) := by
  unfold f_X11_title__48
  refine rx_ior C dX11_title__48 ?_
  refine rx_lti (fun w12 => ?_)
  refine rx_istore_n C [(3, .int w12), (0, .ref (α 0)), (1, .int x1), (2, .int x2), (4, .int x4)] dX11_title__49 rfl (by decide) rfl ?_
  refine rx_iinc C (k0 := 4) (v := x4 + (1 : Int32)) [(4, .int (x4 + (1 : Int32))), (3, .int w12), (0, .ref (α 0)), (1, .int x1), (2, .int x2)] dX11_title__50 rfl (congrArg _ ic_1) (by decide) rfl ?_
  refine rx_goto C (tgt := 15) dX11_title__53 (by decide) ?_
  exact RX.loc (hk_15 x1 x2 w12 (x4 + (1 : Int32)) σ) [2, 3, 4, 1, 0] rfl
set_option maxRecDepth 100000 in
set_option maxHeartbeats 4000000 in
theorem w_X11_title__15 {α : Nat → Nat} {D : va_G} {cA : Nat → ClassId} {z : Cz} (C : CX shM α D cA z RX11 cX11_title_ 5 (some .int) 2 45) : ∀ (n : Nat) (x1 : Int32) (x2 : Int32) (x3 : Int32) (x4 : Int32) (σ : St), RX emI shM α D cA z 5 σ 15 [(0, .ref (α 0)), (1, .int x1), (2, .int x2), (3, .int x3), (4, .int x4)] [] (f_X11_title__15 n x1 x2 x3 x4 σ) := by
  intro n
  induction n with
  | zero => intros; exact rx_none
  | succ n hk_15 =>
    intro x1 x2 x3 x4 σ
    rw [f_X11_title__15.eq_2]
    refine rx_iload C 4 dX11_title__15 rfl ?_
    refine rx_aload_n C 0 dX11_title__17 rfl rfl ?_
    refine rx_getC C (k := 14) sm_0 fc_X11 (by decide) 3 rfl lk_X11_54 dX11_title__18 ?_
    refine rx_aload_n C 0 dX11_title__21 rfl rfl ?_
    refine rx_getI C (k := 12) sm_0 fc_X11 (by decide) rfl lk_X11_48 dX11_title__22 ?_
    refine rx_iald C (n := 2) sm_3 dX11_title__25 (fun _ => ?_)
    refine rx_icmp_ge C (tgt := 56) dX11_title__26 (by decide) (fun _ => ?_) (fun _ => ?_)
    · refine rx_iload_n C 2 dX11_title__56 rfl rfl ?_
      refine rx_if_ne C (tgt := 68) dX11_title__57 (by decide) (fun _ => ?_) (fun _ => ?_)
      · refine rx_aload_n C 0 dX11_title__60 rfl rfl ?_
        refine rx_iload_n C 1 dX11_title__61 rfl rfl ?_
        refine rx_callVi C [.int x1] [] (m_X11_ouncesOf z.l C.inj x1 σ) mv_X11_ouncesOf lk_X11_439 sm_0 rfl rfl rfl (Nat.le_of_ble_eq_true rfl) ⟨Nat.le_of_ble_eq_true rfl, Nat.le_of_ble_eq_true rfl⟩ dX11_title__62 (fun q8 => ?_)
        refine rx_goto C (tgt := 104) dX11_title__65 (by decide) ?_
        exact RX.loc (w_X11_title__104 C q8.1 q8.2) [] rfl
      · refine rx_iload_n C 2 dX11_title__68 rfl rfl ?_
        refine rx_iconst C dX11_title__69 ic_1 ?_
        refine rx_icmp_ne C (tgt := 81) dX11_title__70 (by decide) (fun _ => ?_) (fun _ => ?_)
        · refine rx_aload_n C 0 dX11_title__73 rfl rfl ?_
          refine rx_iload_n C 1 dX11_title__74 rfl rfl ?_
          refine rx_callVi C [.int x1] [] (m_X11_honourOf z.l C.inj x1 σ) mv_X11_honourOf lk_X11_436 sm_0 rfl rfl rfl (Nat.le_of_ble_eq_true rfl) ⟨Nat.le_of_ble_eq_true rfl, Nat.le_of_ble_eq_true rfl⟩ dX11_title__75 (fun q9 => ?_)
          refine rx_goto C (tgt := 104) dX11_title__78 (by decide) ?_
          exact RX.loc (w_X11_title__104 C q9.1 q9.2) [] rfl
        · refine rx_iload_n C 2 dX11_title__81 rfl rfl ?_
          refine rx_iconst C dX11_title__82 ic_2 ?_
          refine rx_icmp_ne C (tgt := 94) dX11_title__83 (by decide) (fun _ => ?_) (fun _ => ?_)
          · refine rx_aload_n C 0 dX11_title__86 rfl rfl ?_
            refine rx_iload_n C 1 dX11_title__87 rfl rfl ?_
            refine rx_callVi C [.int x1] [] (m_X11_lengthOf z.l C.inj x1 σ) mv_X11_lengthOf lk_X11_474 sm_0 rfl rfl rfl (Nat.le_of_ble_eq_true rfl) ⟨Nat.le_of_ble_eq_true rfl, Nat.le_of_ble_eq_true rfl⟩ dX11_title__88 (fun q10 => ?_)
            refine rx_goto C (tgt := 104) dX11_title__91 (by decide) ?_
            exact RX.loc (w_X11_title__104 C q10.1 q10.2) [] rfl
          · refine rx_iload_n C 2 dX11_title__94 rfl rfl ?_
            refine rx_iconst C dX11_title__95 ic_3 ?_
            refine rx_icmp_ne C (tgt := 103) dX11_title__96 (by decide) (fun _ => ?_) (fun _ => ?_)
            · refine rx_iload_n C 3 dX11_title__99 rfl rfl ?_
              refine rx_goto C (tgt := 104) dX11_title__100 (by decide) ?_
              exact RX.loc (w_X11_title__104 C x3 σ) [] rfl
            · refine rx_iconst C dX11_title__103 ic_m1 ?_
              exact RX.loc (w_X11_title__104 C (-1 : Int32) σ) [] rfl
    · refine rx_iload_n C 3 dX11_title__29 rfl rfl ?_
      refine rx_aload_n C 0 dX11_title__30 rfl rfl ?_
      refine rx_iload C 4 dX11_title__31 rfl ?_
      refine rx_iload_n C 1 dX11_title__33 rfl rfl ?_
      refine rx_callVi C [.int x4, .int x1] [.int x3] (m_X11_hasTitle z.l C.inj x4 x1 σ) mv_X11_hasTitle lk_X11_470 sm_0 rfl rfl rfl (Nat.le_of_ble_eq_true rfl) ⟨Nat.le_of_ble_eq_true rfl, Nat.le_of_ble_eq_true rfl⟩ dX11_title__34 (fun q11 => ?_)
      refine rx_if_eq C (tgt := 47) dX11_title__37 (by decide) (fun _ => ?_) (fun _ => ?_)
      · refine rx_iconst C dX11_title__47 ic_0 ?_
        exact RX.loc (w_X11_title__48 C (f_X11_title__15 n) hk_15 x1 x2 x4 (0 : Int32) x3 q11.2) [0, 1, 2, 4] rfl
      · refine rx_iconst C dX11_title__40 ic_1 ?_
        refine rx_iload C 4 dX11_title__41 rfl ?_
        refine rx_ishl C dX11_title__43 ?_
        refine rx_goto C (tgt := 48) dX11_title__44 (by decide) ?_
        exact RX.loc (w_X11_title__48 C (f_X11_title__15 n) hk_15 x1 x2 x4 ((1 : Int32) <<< (x4 &&& 31)) x3 q11.2) [0, 1, 2, 4] rfl
set_option maxRecDepth 100000 in
set_option maxHeartbeats 4000000 in
theorem w_X11_title__e {α : Nat → Nat} {D : va_G} {cA : Nat → ClassId} {z : Cz} (C : CX shM α D cA z RX11 cX11_title_ 5 (some .int) 2 45) (x1 : Int32) (x2 : Int32) (σ : St) : RX emI shM α D cA z 5 σ 0 [(0, .ref (α 0)), (1, .int x1), (2, .int x2)] [] (f_X11_title_ x1 x2 σ) := by
  unfold f_X11_title_
  refine rx_aload_n C 0 dX11_title__0 rfl rfl ?_
  refine rx_iload_n C 1 dX11_title__1 rfl rfl ?_
  refine rx_callVi C [.int x1] [] (m_X11_isTitle z.l C.inj x1 σ) mv_X11_isTitle lk_X11_467 sm_0 rfl rfl rfl (Nat.le_of_ble_eq_true rfl) ⟨Nat.le_of_ble_eq_true rfl, Nat.le_of_ble_eq_true rfl⟩ dX11_title__2 (fun q7 => ?_)
  refine rx_if_ne C (tgt := 10) dX11_title__5 (by decide) (fun _ => ?_) (fun _ => ?_)
  · refine rx_iconst C dX11_title__8 ic_m1 ?_
    exact rx_iret C dX11_title__9
  · refine rx_iconst C dX11_title__10 ic_0 ?_
    refine rx_istore_n C [(3, .int (0 : Int32)), (0, .ref (α 0)), (1, .int x1), (2, .int x2)] dX11_title__11 rfl (by decide) rfl ?_
    refine rx_iconst C dX11_title__12 ic_0 ?_
    refine rx_istore C [(4, .int (0 : Int32)), (3, .int (0 : Int32)), (0, .ref (α 0)), (1, .int x1), (2, .int x2)] dX11_title__13 (by decide) rfl ?_
    exact RX.loc (w_X11_title__15 C FU x1 x2 (0 : Int32) (0 : Int32) q7.2) [2, 3, 4, 1, 0] rfl
theorem m_X11_title_ (l : Launch) {α : Nat → Nat} {D : va_G} {cA : Nat → ClassId} (hin : inj shM.length α) (x1 : Int32) (x2 : Int32) (σ : St) : CT shM l yX11_title_ cX11_title_ 5 (some .int) 2 45 emI α D cA [.ref (α 0), .int x1, .int x2] σ (f_X11_title_ x1 x2 σ) := ct_of rfl (Nat.le_of_ble_eq_true rfl) hin (fun z _ C => w_X11_title__e C x1 x2 σ)
set_option maxRecDepth 100000 in
set_option maxHeartbeats 4000000 in
theorem w_X11_looseMany_4 {α : Nat → Nat} {D : va_G} {cA : Nat → ClassId} {z : Cz} (C : CX shM α D cA z RX11 cX11_looseMany 4 (some .int) 0 0) : ∀ (n : Nat) (x1 : Int32) (x2 : Int32) (x3 : Int32) (σ : St), RX emI shM α D cA z 4 σ 4 [(0, .ref (α 0)), (1, .int x1), (2, .int x2), (3, .int x3)] [] (f_X11_looseMany_4 n x1 x2 x3 σ) := by
  intro n
  induction n with
  | zero => intros; exact rx_none
  | succ n hk_4 =>
    intro x1 x2 x3 σ
    rw [f_X11_looseMany_4.eq_2]
    refine rx_iload_n C 3 dX11_looseMany_4 rfl rfl ?_
    refine rx_bipush C dX11_looseMany_5 bp_26 ?_
    refine rx_icmp_ge C (tgt := 30) dX11_looseMany_7 (by decide) (fun _ => ?_) (fun _ => ?_)
    · refine rx_iload_n C 2 dX11_looseMany_30 rfl rfl ?_
      exact rx_iret C dX11_looseMany_31
    · refine rx_iload_n C 2 dX11_looseMany_10 rfl rfl ?_
      refine rx_aload_n C 0 dX11_looseMany_11 rfl rfl ?_
      refine rx_getC C (k := 54) sm_0 fc_X11 (by decide) 36 rfl lk_X11_177 dX11_looseMany_12 ?_
      refine rx_bipush C dX11_looseMany_15 bp_26 ?_
      refine rx_iload_n C 1 dX11_looseMany_17 rfl rfl ?_
      refine rx_imul C dX11_looseMany_18 ?_
      refine rx_iload_n C 3 dX11_looseMany_19 rfl rfl ?_
      refine rx_iadd C dX11_looseMany_20 ?_
      refine rx_iald C (n := 234) sm_36 dX11_looseMany_21 (fun _ => ?_)
      refine rx_iadd C dX11_looseMany_22 ?_
      refine rx_lti (fun w2 => ?_)
      refine rx_istore_n C [(2, .int w2), (0, .ref (α 0)), (1, .int x1), (3, .int x3)] dX11_looseMany_23 rfl (by decide) rfl ?_
      refine rx_iinc C (k0 := 3) (v := x3 + (1 : Int32)) [(3, .int (x3 + (1 : Int32))), (2, .int w2), (0, .ref (α 0)), (1, .int x1)] dX11_looseMany_24 rfl (congrArg _ ic_1) (by decide) rfl ?_
      refine rx_goto C (tgt := 4) dX11_looseMany_27 (by decide) ?_
      exact RX.loc (hk_4 x1 w2 (x3 + (1 : Int32)) σ) [2, 3, 1, 0] rfl
set_option maxRecDepth 100000 in
set_option maxHeartbeats 4000000 in
theorem w_X11_looseMany_e {α : Nat → Nat} {D : va_G} {cA : Nat → ClassId} {z : Cz} (C : CX shM α D cA z RX11 cX11_looseMany 4 (some .int) 0 0) (x1 : Int32) (σ : St) : RX emI shM α D cA z 4 σ 0 [(0, .ref (α 0)), (1, .int x1)] [] (f_X11_looseMany x1 σ) := by
  unfold f_X11_looseMany
  refine rx_iconst C dX11_looseMany_0 ic_0 ?_
  refine rx_istore_n C [(2, .int (0 : Int32)), (0, .ref (α 0)), (1, .int x1)] dX11_looseMany_1 rfl (by decide) rfl ?_
  refine rx_iconst C dX11_looseMany_2 ic_0 ?_
  refine rx_istore_n C [(3, .int (0 : Int32)), (2, .int (0 : Int32)), (0, .ref (α 0)), (1, .int x1)] dX11_looseMany_3 rfl (by decide) rfl ?_
  exact RX.loc (w_X11_looseMany_4 C FU x1 (0 : Int32) (0 : Int32) σ) [2, 3, 1, 0] rfl
theorem m_X11_looseMany (l : Launch) {α : Nat → Nat} {D : va_G} {cA : Nat → ClassId} (hin : inj shM.length α) (x1 : Int32) (σ : St) : CT shM l yX11_looseMany cX11_looseMany 4 (some .int) 0 0 emI α D cA [.ref (α 0), .int x1] σ (f_X11_looseMany x1 σ) := ct_of rfl (Nat.le_of_ble_eq_true rfl) hin (fun z _ C => w_X11_looseMany_e C x1 σ)
set_option maxRecDepth 100000 in
set_option maxHeartbeats 4000000 in
theorem w_X11_allOf_51 {α : Nat → Nat} {D : va_G} {cA : Nat → ClassId} {z : Cz} (C : CX shM α D cA z RX11 cX11_allOf 5 (some .int) 1 25) (k_15 : Int32 → Int32 → Int32 → Int32 → St → Option (Int32 × St)) (hk_15 : ∀ (x1 : Int32) (x2 : Int32) (x3 : Int32) (x4 : Int32) (σ : St), RX emI shM α D cA z 5 σ 15 [(0, .ref (α 0)), (1, .int x1), (2, .int x2), (3, .int x3), (4, .int x4)] [] (k_15 x1 x2 x3 x4 σ)) (x1 : Int32) (x2 : Int32) (x4 : Int32) (s1 : Int32) (s0 : Int32) (σ : St) : RX emI shM α D cA z 5 σ 51 [(0, .ref (α 0)), (1, .int x1), (2, .int x2), (4, .int x4)] [.int s1, .int s0] (f_X11_allOf_51 k_15 x1 x2 x4 s1 s0 σ) := by
  unfold f_X11_allOf_51
  refine rx_iadd C dX11_allOf_51 ?_
  refine rx_lti (fun w7 => ?_)
  refine rx_istore_n C [(3, .int w7), (0, .ref (α 0)), (1, .int x1), (2, .int x2), (4, .int x4)] dX11_allOf_52 rfl (by decide) rfl ?_
  refine rx_iinc C (k0 := 4) (v := x4 + (1 : Int32)) [(4, .int (x4 + (1 : Int32))), (3, .int w7), (0, .ref (α 0)), (1, .int x1), (2, .int x2)] dX11_allOf_53 rfl (congrArg _ ic_1) (by decide) rfl ?_
  refine rx_goto C (tgt := 15) dX11_allOf_56 (by decide) ?_
  exact RX.loc (hk_15 x1 x2 w7 (x4 + (1 : Int32)) σ) [2, 3, 4, 1, 0] rfl
set_option maxRecDepth 100000 in
set_option maxHeartbeats 4000000 in
theorem w_X11_allOf_15 {α : Nat → Nat} {D : va_G} {cA : Nat → ClassId} {z : Cz} (C : CX shM α D cA z RX11 cX11_allOf 5 (some .int) 1 25) : ∀ (n : Nat) (x1 : Int32) (x2 : Int32) (x3 : Int32) (x4 : Int32) (σ : St), RX emI shM α D cA z 5 σ 15 [(0, .ref (α 0)), (1, .int x1), (2, .int x2), (3, .int x3), (4, .int x4)] [] (f_X11_allOf_15 n x1 x2 x3 x4 σ) := by
  intro n
  induction n with
  | zero => intros; exact rx_none
  | succ n hk_15 =>
    intro x1 x2 x3 x4 σ
    rw [f_X11_allOf_15.eq_2]
    refine rx_iload C 4 dX11_allOf_15 rfl ?_
    refine rx_aload_n C 0 dX11_allOf_17 rfl rfl ?_
    refine rx_getC C (k := 20) sm_0 fc_X11 (by decide) 9 rfl lk_X11_73 dX11_allOf_18 ?_
    refine rx_aload_n C 0 dX11_allOf_21 rfl rfl ?_
    refine rx_getI C (k := 12) sm_0 fc_X11 (by decide) rfl lk_X11_48 dX11_allOf_22 ?_
    refine rx_iald C (n := 2) sm_9 dX11_allOf_25 (fun _ => ?_)
    refine rx_icmp_ge C (tgt := 59) dX11_allOf_26 (by decide) (fun _ => ?_) (fun _ => ?_)
    · refine rx_iload_n C 3 dX11_allOf_59 rfl rfl ?_
      exact rx_iret C dX11_allOf_60
    · refine rx_iload_n C 3 dX11_allOf_29 rfl rfl ?_
      refine rx_aload_n C 0 dX11_allOf_30 rfl rfl ?_
      refine rx_iload_n C 1 dX11_allOf_31 rfl rfl ?_
      refine rx_iload C 4 dX11_allOf_32 rfl ?_
      refine rx_callVi C [.int x1, .int x4] [.int x3] (m_X11_hasTitle z.l C.inj x1 x4 σ) mv_X11_hasTitle lk_X11_470 sm_0 rfl rfl rfl (Nat.le_of_ble_eq_true rfl) ⟨Nat.le_of_ble_eq_true rfl, Nat.le_of_ble_eq_true rfl⟩ dX11_allOf_34 (fun q6 => ?_)
      refine rx_if_eq C (tgt := 50) dX11_allOf_37 (by decide) (fun _ => ?_) (fun _ => ?_)
      · refine rx_iconst C dX11_allOf_50 ic_0 ?_
        exact RX.loc (w_X11_allOf_51 C (f_X11_allOf_15 n) hk_15 x1 x2 x4 (0 : Int32) x3 q6.2) [0, 1, 2, 4] rfl
      · refine rx_aload_n C 0 dX11_allOf_40 rfl rfl ?_
        refine rx_iload C 4 dX11_allOf_41 rfl ?_
        refine rx_iload_n C 2 dX11_allOf_43 rfl rfl ?_
        refine rx_callVi C [.int x4, .int x2] [.int x3] (m_X11_often z.l C.inj x4 x2 q6.2) mv_X11_often lk_X11_477 sm_0 rfl rfl rfl (Nat.le_of_ble_eq_true rfl) ⟨Nat.le_of_ble_eq_true rfl, Nat.le_of_ble_eq_true rfl⟩ dX11_allOf_44 (fun q8 => ?_)
        refine rx_goto C (tgt := 51) dX11_allOf_47 (by decide) ?_
        exact RX.loc (w_X11_allOf_51 C (f_X11_allOf_15 n) hk_15 x1 x2 x4 q8.1 x3 q8.2) [0, 1, 2, 4] rfl
set_option maxRecDepth 100000 in
set_option maxHeartbeats 4000000 in
theorem w_X11_allOf_e {α : Nat → Nat} {D : va_G} {cA : Nat → ClassId} {z : Cz} (C : CX shM α D cA z RX11 cX11_allOf 5 (some .int) 1 25) (x1 : Int32) (x2 : Int32) (σ : St) : RX emI shM α D cA z 5 σ 0 [(0, .ref (α 0)), (1, .int x1), (2, .int x2)] [] (f_X11_allOf x1 x2 σ) := by
  unfold f_X11_allOf
  refine rx_aload_n C 0 dX11_allOf_0 rfl rfl ?_
  refine rx_getC C (k := 54) sm_0 fc_X11 (by decide) 36 rfl lk_X11_177 dX11_allOf_1 ?_
  refine rx_bipush C dX11_allOf_4 bp_26 ?_
  refine rx_iload_n C 1 dX11_allOf_6 rfl rfl ?_
  refine rx_imul C dX11_allOf_7 ?_
  refine rx_iload_n C 2 dX11_allOf_8 rfl rfl ?_
  refine rx_iadd C dX11_allOf_9 ?_
  refine rx_iald C (n := 234) sm_36 dX11_allOf_10 (fun _ => ?_)
  refine rx_lti (fun w5 => ?_)
  refine rx_istore_n C [(3, .int w5), (0, .ref (α 0)), (1, .int x1), (2, .int x2)] dX11_allOf_11 rfl (by decide) rfl ?_
  refine rx_iconst C dX11_allOf_12 ic_0 ?_
  refine rx_istore C [(4, .int (0 : Int32)), (3, .int w5), (0, .ref (α 0)), (1, .int x1), (2, .int x2)] dX11_allOf_13 (by decide) rfl ?_
  exact RX.loc (w_X11_allOf_15 C FU x1 x2 w5 (0 : Int32) σ) [2, 3, 4, 1, 0] rfl
theorem m_X11_allOf (l : Launch) {α : Nat → Nat} {D : va_G} {cA : Nat → ClassId} (hin : inj shM.length α) (x1 : Int32) (x2 : Int32) (σ : St) : CT shM l yX11_allOf cX11_allOf 5 (some .int) 1 25 emI α D cA [.ref (α 0), .int x1, .int x2] σ (f_X11_allOf x1 x2 σ) := ct_of rfl (Nat.le_of_ble_eq_true rfl) hin (fun z _ C => w_X11_allOf_e C x1 x2 σ)
