set_option maxRecDepth 100000 in
set_option maxHeartbeats 4000000 in
theorem w_X0_tell_20 {α : Nat → Nat} {D : va_G} {cA : Nat → ClassId} {z : Cz} (C : CX shX α D cA z RX0 cX0_tell 4 none 0 0) (σ : St) : RX emV shX α D cA z 4 σ 20 [] [] (f_X0_tell_20 σ) := by
  unfold f_X0_tell_20
  exact rx_vret C dX0_tell_20
set_option maxRecDepth 100000 in
set_option maxHeartbeats 4000000 in
theorem w_X0_tell_e {α : Nat → Nat} {D : va_G} {cA : Nat → ClassId} {z : Cz} (C : CX shX α D cA z RX0 cX0_tell 4 none 0 0) (x1 : Int32) (x2 : Int32) (σ : St) : RX emV shX α D cA z 4 σ 0 [(0, .ref (α 15)), (1, .int x1), (2, .int x2)] [] (f_X0_tell x1 x2 σ) := by
  unfold f_X0_tell
  refine rx_iconst C dX0_tell_0 ic_m1 ?_
  refine rx_iload_n C 1 dX0_tell_1 rfl rfl ?_
  refine rx_isub C dX0_tell_2 ?_
  refine rx_lti (fun w3 => ?_)
  refine rx_istore_n C [(3, .int w3), (0, .ref (α 15)), (1, .int x1), (2, .int x2)] dX0_tell_3 rfl (by decide) rfl ?_
  refine rx_iload_n C 0 dX0_tell_4 rfl rfl ?_
  refine rx_if_lt C (tgt := 20) dX0_tell_5 (by decide) (fun _ => ?_) (fun _ => ?_)
  · exact RX.loc (w_X0_tell_20 C σ) [] rfl
  · refine rx_iload_n C 0 dX0_tell_8 rfl rfl ?_
    refine rx_iconst C dX0_tell_9 ic_5 ?_
    refine rx_icmp_ge C (tgt := 20) dX0_tell_10 (by decide) (fun _ => ?_) (fun _ => ?_)
    · exact RX.loc (w_X0_tell_20 C σ) [] rfl
    · refine rx_aload_n C 1 dX0_tell_13 rfl rfl ?_
      refine rx_getC C (k := 1) sx_15 fc_X0 (by decide) 17 rfl lk_X0_13 dX0_tell_14 ?_
      refine rx_iload_n C 0 dX0_tell_17 rfl rfl ?_
      refine rx_iload_n C 3 dX0_tell_18 rfl rfl ?_
      refine rx_iast C (n := 5) sx_17 dX0_tell_19 (fun _ => ?_)
      refine rx_lts (fun σ4 => ?_)
      exact RX.loc (w_X0_tell_20 C σ4) [] rfl
theorem m_X0_tell (l : Launch) {α : Nat → Nat} {D : va_G} {cA : Nat → ClassId} (hin : inj shX.length α) (x1 : Int32) (x2 : Int32) (σ : St) : CT shX l yX0_tell cX0_tell 4 none 0 0 emV α D cA [.ref (α 15), .int x1, .int x2] σ (f_X0_tell x1 x2 σ) := ct_of rfl (Nat.le_of_ble_eq_true rfl) hin (fun z _ C => w_X0_tell_e C x1 x2 σ)
set_option maxRecDepth 100000 in
set_option maxHeartbeats 4000000 in
theorem w_J9_max_7cf53_10 {α : Nat → Nat} {D : va_G} {cA : Nat → ClassId} {z : Cz} (C : CX shX α D cA z RJ9 cJ9_max_7cf53 2 (some .int) 0 0) (s0 : Int32) (σ : St) : RX emI shX α D cA z 2 σ 10 [] [.int s0] (f_J9_max_7cf53_10 s0 σ) := by
  unfold f_J9_max_7cf53_10
  exact rx_iret C dJ9_max_7cf53_10
set_option maxRecDepth 100000 in
set_option maxHeartbeats 4000000 in
theorem w_J9_max_7cf53_e {α : Nat → Nat} {D : va_G} {cA : Nat → ClassId} {z : Cz} (C : CX shX α D cA z RJ9 cJ9_max_7cf53 2 (some .int) 0 0) (x0 : Int32) (x1 : Int32) (σ : St) : RX emI shX α D cA z 2 σ 0 [(0, .int x0), (1, .int x1)] [] (f_J9_max_7cf53 x0 x1 σ) := by
  unfold f_J9_max_7cf53
  refine rx_iload_n C 0 dJ9_max_7cf53_0 rfl rfl ?_
  refine rx_iload_n C 1 dJ9_max_7cf53_1 rfl rfl ?_
  refine rx_icmp_lt C (tgt := 9) dJ9_max_7cf53_2 (by decide) (fun _ => ?_) (fun _ => ?_)
  · refine rx_iload_n C 1 dJ9_max_7cf53_9 rfl rfl ?_
    exact RX.loc (w_J9_max_7cf53_10 C x1 σ) [] rfl
  · refine rx_iload_n C 0 dJ9_max_7cf53_5 rfl rfl ?_
    refine rx_goto C (tgt := 10) dJ9_max_7cf53_6 (by decide) ?_
    exact RX.loc (w_J9_max_7cf53_10 C x0 σ) [] rfl
theorem m_J9_max_7cf53 (l : Launch) {α : Nat → Nat} {D : va_G} {cA : Nat → ClassId} (hin : inj shX.length α) (x0 : Int32) (x1 : Int32) (σ : St) : CT shX l yJ9_max_7cf53 cJ9_max_7cf53 2 (some .int) 0 0 emI α D cA [.int x0, .int x1] σ (f_J9_max_7cf53 x0 x1 σ) := ct_ofF (by decide +kernel) (Nat.le_of_ble_eq_true rfl) hin (fun z _ C => w_J9_max_7cf53_e C x0 x1 σ)
set_option maxRecDepth 100000 in
set_option maxHeartbeats 4000000 in
theorem w_J9_max_f86c9_11 {α : Nat → Nat} {D : va_G} {cA : Nat → ClassId} {z : Cz} (C : CX shX α D cA z RJ9 cJ9_max_f86c9 4 (some .long) 0 0) (t0 : Int64) (σ : St) : RX emL shX α D cA z 4 σ 11 [] [.long t0] (f_J9_max_f86c9_11 t0 σ) := by
  unfold f_J9_max_f86c9_11
  exact rx_lret C dJ9_max_f86c9_11
set_option maxRecDepth 100000 in
set_option maxHeartbeats 4000000 in
theorem w_J9_max_f86c9_e {α : Nat → Nat} {D : va_G} {cA : Nat → ClassId} {z : Cz} (C : CX shX α D cA z RJ9 cJ9_max_f86c9 4 (some .long) 0 0) (y0 : Int64) (y2 : Int64) (σ : St) : RX emL shX α D cA z 4 σ 0 [(0, .long y0), (2, .long y2)] [] (f_J9_max_f86c9 y0 y2 σ) := by
  unfold f_J9_max_f86c9
  refine rx_lload_n C 0 dJ9_max_f86c9_0 rfl rfl ?_
  refine rx_lload_n C 1 dJ9_max_f86c9_1 rfl rfl ?_
  refine rx_lcmp C dJ9_max_f86c9_2 ?_
  refine rx_if_lt C (tgt := 10) dJ9_max_f86c9_3 (by decide) (fun _ => ?_) (fun _ => ?_)
  · refine rx_lload_n C 1 dJ9_max_f86c9_10 rfl rfl ?_
    exact RX.loc (w_J9_max_f86c9_11 C y2 σ) [] rfl
  · refine rx_lload_n C 0 dJ9_max_f86c9_6 rfl rfl ?_
    refine rx_goto C (tgt := 11) dJ9_max_f86c9_7 (by decide) ?_
    exact RX.loc (w_J9_max_f86c9_11 C y0 σ) [] rfl
theorem m_J9_max_f86c9 (l : Launch) {α : Nat → Nat} {D : va_G} {cA : Nat → ClassId} (hin : inj shX.length α) (y0 : Int64) (y2 : Int64) (σ : St) : CT shX l yJ9_max_f86c9 cJ9_max_f86c9 4 (some .long) 0 0 emL α D cA [.long y0, .long y2] σ (f_J9_max_f86c9 y0 y2 σ) := ct_ofF (by decide +kernel) (Nat.le_of_ble_eq_true rfl) hin (fun z _ C => w_J9_max_f86c9_e C y0 y2 σ)
set_option maxRecDepth 100000 in
set_option maxHeartbeats 4000000 in
theorem w_J9_min_f86c9_11 {α : Nat → Nat} {D : va_G} {cA : Nat → ClassId} {z : Cz} (C : CX shX α D cA z RJ9 cJ9_min_f86c9 4 (some .long) 0 0) (t0 : Int64) (σ : St) : RX emL shX α D cA z 4 σ 11 [] [.long t0] (f_J9_min_f86c9_11 t0 σ) := by
  unfold f_J9_min_f86c9_11
  exact rx_lret C dJ9_min_f86c9_11
set_option maxRecDepth 100000 in
set_option maxHeartbeats 4000000 in
theorem w_J9_min_f86c9_e {α : Nat → Nat} {D : va_G} {cA : Nat → ClassId} {z : Cz} (C : CX shX α D cA z RJ9 cJ9_min_f86c9 4 (some .long) 0 0) (y0 : Int64) (y2 : Int64) (σ : St) : RX emL shX α D cA z 4 σ 0 [(0, .long y0), (2, .long y2)] [] (f_J9_min_f86c9 y0 y2 σ) := by
  unfold f_J9_min_f86c9
  refine rx_lload_n C 0 dJ9_min_f86c9_0 rfl rfl ?_
  refine rx_lload_n C 1 dJ9_min_f86c9_1 rfl rfl ?_
  refine rx_lcmp C dJ9_min_f86c9_2 ?_
  refine rx_if_gt C (tgt := 10) dJ9_min_f86c9_3 (by decide) (fun _ => ?_) (fun _ => ?_)
  · refine rx_lload_n C 1 dJ9_min_f86c9_10 rfl rfl ?_
    exact RX.loc (w_J9_min_f86c9_11 C y2 σ) [] rfl
  · refine rx_lload_n C 0 dJ9_min_f86c9_6 rfl rfl ?_
    refine rx_goto C (tgt := 11) dJ9_min_f86c9_7 (by decide) ?_
    exact RX.loc (w_J9_min_f86c9_11 C y0 σ) [] rfl
theorem m_J9_min_f86c9 (l : Launch) {α : Nat → Nat} {D : va_G} {cA : Nat → ClassId} (hin : inj shX.length α) (y0 : Int64) (y2 : Int64) (σ : St) : CT shX l yJ9_min_f86c9 cJ9_min_f86c9 4 (some .long) 0 0 emL α D cA [.long y0, .long y2] σ (f_J9_min_f86c9 y0 y2 σ) := ct_ofF (by decide +kernel) (Nat.le_of_ble_eq_true rfl) hin (fun z _ C => w_J9_min_f86c9_e C y0 y2 σ)
set_option maxRecDepth 100000 in
set_option maxHeartbeats 4000000 in
theorem w_X0_held_e {α : Nat → Nat} {D : va_G} {cA : Nat → ClassId} {z : Cz} (C : CX shX α D cA z RX0 cX0_held 2 (some .int) 1 23) (y0 : Int64) (σ : St) : RX emI shX α D cA z 2 σ 0 [(0, .long y0)] [] (f_X0_held y0 σ) := by
  unfold f_X0_held
  refine rx_ldc2_w C lk_X0_73 dX0_held_0 ?_
  refine rx_ldc2_w C lk_X0_75 dX0_held_3 ?_
  refine rx_lload_n C 0 dX0_held_6 rfl rfl ?_
  refine rx_callSl C [.long (1000000 : Int64), .long y0] [.long (-1000000 : Int64)] (m_J9_min_f86c9 z.l C.inj (1000000 : Int64) y0 σ) ms_J9_min_f86c9 lk_X0_68 rfl rfl (Nat.le_of_ble_eq_true rfl) ⟨Nat.le_of_ble_eq_true rfl, Nat.le_of_ble_eq_true rfl⟩ dX0_held_7 (fun q3 => ?_)
  refine rx_callSl C [.long (-1000000 : Int64), .long q3.1] [] (m_J9_max_f86c9 z.l C.inj (-1000000 : Int64) q3.1 q3.2) ms_J9_max_f86c9 lk_X0_71 rfl rfl (Nat.le_of_ble_eq_true rfl) ⟨Nat.le_of_ble_eq_true rfl, Nat.le_of_ble_eq_true rfl⟩ dX0_held_10 (fun q4 => ?_)
  refine rx_l2i C dX0_held_13 ?_
  exact rx_iret C dX0_held_14
theorem m_X0_held (l : Launch) {α : Nat → Nat} {D : va_G} {cA : Nat → ClassId} (hin : inj shX.length α) (y0 : Int64) (σ : St) : CT shX l yX0_held cX0_held 2 (some .int) 1 23 emI α D cA [.long y0] σ (f_X0_held y0 σ) := ct_of rfl (Nat.le_of_ble_eq_true rfl) hin (fun z _ C => w_X0_held_e C y0 σ)
set_option maxRecDepth 100000 in
set_option maxHeartbeats 4000000 in
theorem w_J9_floorDiv_f86c9_27 {α : Nat → Nat} {D : va_G} {cA : Nat → ClassId} {z : Cz} (C : CX shX α D cA z RJ9 cJ9_floorDiv_f86c9 6 (some .long) 0 0) (y4 : Int64) (σ : St) : RX emL shX α D cA z 6 σ 27 [(4, .long y4)] [] (f_J9_floorDiv_f86c9_27 y4 σ) := by
  unfold f_J9_floorDiv_f86c9_27
  refine rx_lload C 0 dJ9_floorDiv_f86c9_27 rfl ?_
  exact rx_lret C dJ9_floorDiv_f86c9_29
set_option maxRecDepth 100000 in
set_option maxHeartbeats 4000000 in
theorem w_J9_floorDiv_f86c9_e {α : Nat → Nat} {D : va_G} {cA : Nat → ClassId} {z : Cz} (C : CX shX α D cA z RJ9 cJ9_floorDiv_f86c9 6 (some .long) 0 0) (y0 : Int64) (y2 : Int64) (σ : St) : RX emL shX α D cA z 6 σ 0 [(0, .long y0), (2, .long y2)] [] (f_J9_floorDiv_f86c9 y0 y2 σ) := by
  unfold f_J9_floorDiv_f86c9
  refine rx_lload_n C 0 dJ9_floorDiv_f86c9_0 rfl rfl ?_
  refine rx_lload_n C 1 dJ9_floorDiv_f86c9_1 rfl rfl ?_
  refine rx_ldiv C dJ9_floorDiv_f86c9_2 (fun _ => ?_)
  refine rx_ltl (fun w2 => ?_)
  refine rx_lstore C [(4, .long w2), (0, .long y0), (2, .long y2)] dJ9_floorDiv_f86c9_3 (by decide) rfl ?_
  refine rx_lload_n C 1 dJ9_floorDiv_f86c9_5 rfl rfl ?_
  refine rx_lload_n C 2 dJ9_floorDiv_f86c9_6 rfl rfl ?_
  refine rx_lxor C dJ9_floorDiv_f86c9_7 ?_
  refine rx_lconst C dJ9_floorDiv_f86c9_8 lc_0 ?_
  refine rx_lcmp C dJ9_floorDiv_f86c9_9 ?_
  refine rx_if_ge C (tgt := 27) dJ9_floorDiv_f86c9_10 (by decide) (fun _ => ?_) (fun _ => ?_)
  · exact RX.loc (w_J9_floorDiv_f86c9_27 C w2 σ) [0] rfl
  · refine rx_lload C 0 dJ9_floorDiv_f86c9_13 rfl ?_
    refine rx_lload_n C 2 dJ9_floorDiv_f86c9_15 rfl rfl ?_
    refine rx_lmul C dJ9_floorDiv_f86c9_16 ?_
    refine rx_lload_n C 1 dJ9_floorDiv_f86c9_17 rfl rfl ?_
    refine rx_lcmp C dJ9_floorDiv_f86c9_18 ?_
    refine rx_if_eq C (tgt := 27) dJ9_floorDiv_f86c9_19 (by decide) (fun _ => ?_) (fun _ => ?_)
    · exact RX.loc (w_J9_floorDiv_f86c9_27 C w2 σ) [0] rfl
    · refine rx_lload C 0 dJ9_floorDiv_f86c9_22 rfl ?_
      refine rx_lconst C dJ9_floorDiv_f86c9_24 lc_1 ?_
      refine rx_lsub C dJ9_floorDiv_f86c9_25 ?_
      exact rx_lret C dJ9_floorDiv_f86c9_26
theorem m_J9_floorDiv_f86c9 (l : Launch) {α : Nat → Nat} {D : va_G} {cA : Nat → ClassId} (hin : inj shX.length α) (y0 : Int64) (y2 : Int64) (σ : St) : CT shX l yJ9_floorDiv_f86c9 cJ9_floorDiv_f86c9 6 (some .long) 0 0 emL α D cA [.long y0, .long y2] σ (f_J9_floorDiv_f86c9 y0 y2 σ) := ct_ofF (by decide +kernel) (Nat.le_of_ble_eq_true rfl) hin (fun z _ C => w_J9_floorDiv_f86c9_e C y0 y2 σ)
set_option maxRecDepth 100000 in
set_option maxHeartbeats 4000000 in
theorem w_J9_floorMod_f86c9_25 {α : Nat → Nat} {D : va_G} {cA : Nat → ClassId} {z : Cz} (C : CX shX α D cA z RJ9 cJ9_floorMod_f86c9 6 (some .long) 0 0) (y4 : Int64) (σ : St) : RX emL shX α D cA z 6 σ 25 [(4, .long y4)] [] (f_J9_floorMod_f86c9_25 y4 σ) := by
  unfold f_J9_floorMod_f86c9_25
  refine rx_lload C 0 dJ9_floorMod_f86c9_25 rfl ?_
  exact rx_lret C dJ9_floorMod_f86c9_27
set_option maxRecDepth 100000 in
set_option maxHeartbeats 4000000 in
theorem w_J9_floorMod_f86c9_e {α : Nat → Nat} {D : va_G} {cA : Nat → ClassId} {z : Cz} (C : CX shX α D cA z RJ9 cJ9_floorMod_f86c9 6 (some .long) 0 0) (y0 : Int64) (y2 : Int64) (σ : St) : RX emL shX α D cA z 6 σ 0 [(0, .long y0), (2, .long y2)] [] (f_J9_floorMod_f86c9 y0 y2 σ) := by
  unfold f_J9_floorMod_f86c9
  refine rx_lload_n C 0 dJ9_floorMod_f86c9_0 rfl rfl ?_
  refine rx_lload_n C 1 dJ9_floorMod_f86c9_1 rfl rfl ?_
  refine rx_lrem C dJ9_floorMod_f86c9_2 (fun _ => ?_)
  refine rx_ltl (fun w2 => ?_)
  refine rx_lstore C [(4, .long w2), (0, .long y0), (2, .long y2)] dJ9_floorMod_f86c9_3 (by decide) rfl ?_
  refine rx_lload_n C 1 dJ9_floorMod_f86c9_5 rfl rfl ?_
  refine rx_lload_n C 2 dJ9_floorMod_f86c9_6 rfl rfl ?_
  refine rx_lxor C dJ9_floorMod_f86c9_7 ?_
  refine rx_lconst C dJ9_floorMod_f86c9_8 lc_0 ?_
  refine rx_lcmp C dJ9_floorMod_f86c9_9 ?_
  refine rx_if_ge C (tgt := 25) dJ9_floorMod_f86c9_10 (by decide) (fun _ => ?_) (fun _ => ?_)
  · exact RX.loc (w_J9_floorMod_f86c9_25 C w2 σ) [0] rfl
  · refine rx_lload C 0 dJ9_floorMod_f86c9_13 rfl ?_
    refine rx_lconst C dJ9_floorMod_f86c9_15 lc_0 ?_
    refine rx_lcmp C dJ9_floorMod_f86c9_16 ?_
    refine rx_if_eq C (tgt := 25) dJ9_floorMod_f86c9_17 (by decide) (fun _ => ?_) (fun _ => ?_)
    · exact RX.loc (w_J9_floorMod_f86c9_25 C w2 σ) [0] rfl
    · refine rx_lload C 0 dJ9_floorMod_f86c9_20 rfl ?_
      refine rx_lload_n C 2 dJ9_floorMod_f86c9_22 rfl rfl ?_
      refine rx_ladd C dJ9_floorMod_f86c9_23 ?_
      exact rx_lret C dJ9_floorMod_f86c9_24
theorem m_J9_floorMod_f86c9 (l : Launch) {α : Nat → Nat} {D : va_G} {cA : Nat → ClassId} (hin : inj shX.length α) (y0 : Int64) (y2 : Int64) (σ : St) : CT shX l yJ9_floorMod_f86c9 cJ9_floorMod_f86c9 6 (some .long) 0 0 emL α D cA [.long y0, .long y2] σ (f_J9_floorMod_f86c9 y0 y2 σ) := ct_ofF (by decide +kernel) (Nat.le_of_ble_eq_true rfl) hin (fun z _ C => w_J9_floorMod_f86c9_e C y0 y2 σ)
set_option maxRecDepth 100000 in
set_option maxHeartbeats 4000000 in
theorem w_X0_joined_151 {α : Nat → Nat} {D : va_G} {cA : Nat → ClassId} {z : Cz} (C : CX shX α D cA z RX0 cX0_joined 5 (some .long) 1 25) (t0 : Int64) (σ : St) : RX emL shX α D cA z 5 σ 151 [] [.long t0] (f_X0_joined_151 t0 σ) := by
  unfold f_X0_joined_151
  exact rx_lret C dX0_joined_151
set_option maxRecDepth 100000 in
set_option maxHeartbeats 4000000 in
theorem w_X0_joined_135 {α : Nat → Nat} {D : va_G} {cA : Nat → ClassId} {z : Cz} (C : CX shX α D cA z RX0 cX0_joined 5 (some .long) 1 25) (t0 : Int64) (σ : St) : RX emL shX α D cA z 5 σ 135 [] [.long t0] (f_X0_joined_135 t0 σ) := by
  unfold f_X0_joined_135
  exact rx_lret C dX0_joined_135
set_option maxRecDepth 100000 in
set_option maxHeartbeats 4000000 in
theorem w_X0_joined_107 {α : Nat → Nat} {D : va_G} {cA : Nat → ClassId} {z : Cz} (C : CX shX α D cA z RX0 cX0_joined 5 (some .long) 1 25) (t0 : Int64) (σ : St) : RX emL shX α D cA z 5 σ 107 [] [.long t0] (f_X0_joined_107 t0 σ) := by
  unfold f_X0_joined_107
  exact rx_lret C dX0_joined_107
set_option maxRecDepth 100000 in
set_option maxHeartbeats 4000000 in
theorem w_X0_joined_95 {α : Nat → Nat} {D : va_G} {cA : Nat → ClassId} {z : Cz} (C : CX shX α D cA z RX0 cX0_joined 5 (some .long) 1 25) (t0 : Int64) (σ : St) : RX emL shX α D cA z 5 σ 95 [] [.long t0] (f_X0_joined_95 t0 σ) := by
  unfold f_X0_joined_95
  exact rx_lret C dX0_joined_95
set_option maxRecDepth 100000 in
set_option maxHeartbeats 4000000 in
theorem w_X0_joined_83 {α : Nat → Nat} {D : va_G} {cA : Nat → ClassId} {z : Cz} (C : CX shX α D cA z RX0 cX0_joined 5 (some .long) 1 25) (t0 : Int64) (σ : St) : RX emL shX α D cA z 5 σ 83 [] [.long t0] (f_X0_joined_83 t0 σ) := by
  unfold f_X0_joined_83
  exact rx_lret C dX0_joined_83
set_option maxRecDepth 100000 in
set_option maxHeartbeats 4000000 in
theorem w_X0_joined_e {α : Nat → Nat} {D : va_G} {cA : Nat → ClassId} {z : Cz} (C : CX shX α D cA z RX0 cX0_joined 5 (some .long) 1 25) (x0 : Int32) (y1 : Int64) (y3 : Int64) (σ : St) : RX emL shX α D cA z 5 σ 0 [(0, .int x0), (1, .long y1), (3, .long y3)] [] (f_X0_joined x0 y1 y3 σ) := by
  unfold f_X0_joined
  refine rx_iload_n C 0 dX0_joined_0 rfl rfl ?_
  refine rx_if (fun hs17 => ?_) (fun hs17 => ?_)
  · refine rx_tableIn C (tgt := 158) (-18 : Int32) hs17 dX0_joined_1 (by decide) (by decide) rfl (by decide) ?_
    refine rx_lload_n C 1 dX0_joined_158 rfl rfl ?_
    refine rx_lload_n C 2 dX0_joined_159 rfl rfl ?_
    refine rx_callSl C [.long y1, .long y3] [] (m_J9_max_f86c9 z.l C.inj y1 y3 σ) ms_J9_max_f86c9 lk_X0_71 rfl rfl (Nat.le_of_ble_eq_true rfl) ⟨Nat.le_of_ble_eq_true rfl, Nat.le_of_ble_eq_true rfl⟩ dX0_joined_160 (fun q18 => ?_)
    exact rx_lret C dX0_joined_163
  refine rx_if (fun hs19 => ?_) (fun hs19 => ?_)
  · refine rx_tableIn C (tgt := 152) (-17 : Int32) hs19 dX0_joined_1 (by decide) (by decide) rfl (by decide) ?_
    refine rx_lload_n C 1 dX0_joined_152 rfl rfl ?_
    refine rx_lload_n C 2 dX0_joined_153 rfl rfl ?_
    refine rx_callSl C [.long y1, .long y3] [] (m_J9_min_f86c9 z.l C.inj y1 y3 σ) ms_J9_min_f86c9 lk_X0_68 rfl rfl (Nat.le_of_ble_eq_true rfl) ⟨Nat.le_of_ble_eq_true rfl, Nat.le_of_ble_eq_true rfl⟩ dX0_joined_154 (fun q20 => ?_)
    exact rx_lret C dX0_joined_157
  refine rx_if (fun hs21 => ?_) (fun hs21 => ?_)
  · refine rx_tableIn C (tgt := 136) (-16 : Int32) hs21 dX0_joined_1 (by decide) (by decide) rfl (by decide) ?_
    refine rx_lload_n C 2 dX0_joined_136 rfl rfl ?_
    refine rx_lconst C dX0_joined_137 lc_0 ?_
    refine rx_lcmp C dX0_joined_138 ?_
    refine rx_if_ne C (tgt := 146) dX0_joined_139 (by decide) (fun _ => ?_) (fun _ => ?_)
    · refine rx_lconst C dX0_joined_142 lc_0 ?_
      refine rx_goto C (tgt := 151) dX0_joined_143 (by decide) ?_
      exact RX.loc (w_X0_joined_151 C (0 : Int64) σ) [] rfl
    · refine rx_lload_n C 1 dX0_joined_146 rfl rfl ?_
      refine rx_lload_n C 2 dX0_joined_147 rfl rfl ?_
      refine rx_callSl C [.long y1, .long y3] [] (m_J9_floorMod_f86c9 z.l C.inj y1 y3 σ) ms_J9_floorMod_f86c9 lk_X0_65 rfl rfl (Nat.le_of_ble_eq_true rfl) ⟨Nat.le_of_ble_eq_true rfl, Nat.le_of_ble_eq_true rfl⟩ dX0_joined_148 (fun q22 => ?_)
      exact RX.loc (w_X0_joined_151 C q22.1 q22.2) [] rfl
  refine rx_if (fun hs23 => ?_) (fun hs23 => ?_)
  · refine rx_tableIn C (tgt := 120) (-15 : Int32) hs23 dX0_joined_1 (by decide) (by decide) rfl (by decide) ?_
    refine rx_lload_n C 2 dX0_joined_120 rfl rfl ?_
    refine rx_lconst C dX0_joined_121 lc_0 ?_
    refine rx_lcmp C dX0_joined_122 ?_
    refine rx_if_ne C (tgt := 130) dX0_joined_123 (by decide) (fun _ => ?_) (fun _ => ?_)
    · refine rx_lconst C dX0_joined_126 lc_0 ?_
      refine rx_goto C (tgt := 135) dX0_joined_127 (by decide) ?_
      exact RX.loc (w_X0_joined_135 C (0 : Int64) σ) [] rfl
    · refine rx_lload_n C 1 dX0_joined_130 rfl rfl ?_
      refine rx_lload_n C 2 dX0_joined_131 rfl rfl ?_
      refine rx_callSl C [.long y1, .long y3] [] (m_J9_floorDiv_f86c9 z.l C.inj y1 y3 σ) ms_J9_floorDiv_f86c9 lk_X0_61 rfl rfl (Nat.le_of_ble_eq_true rfl) ⟨Nat.le_of_ble_eq_true rfl, Nat.le_of_ble_eq_true rfl⟩ dX0_joined_132 (fun q24 => ?_)
      exact RX.loc (w_X0_joined_135 C q24.1 q24.2) [] rfl
  refine rx_if (fun hs25 => ?_) (fun hs25 => ?_)
  · refine rx_tableIn C (tgt := 116) (-14 : Int32) hs25 dX0_joined_1 (by decide) (by decide) rfl (by decide) ?_
    refine rx_lload_n C 1 dX0_joined_116 rfl rfl ?_
    refine rx_lload_n C 2 dX0_joined_117 rfl rfl ?_
    refine rx_lmul C dX0_joined_118 ?_
    exact rx_lret C dX0_joined_119
  refine rx_if (fun hs26 => ?_) (fun hs26 => ?_)
  · refine rx_tableIn C (tgt := 112) (-13 : Int32) hs26 dX0_joined_1 (by decide) (by decide) rfl (by decide) ?_
    refine rx_lload_n C 1 dX0_joined_112 rfl rfl ?_
    refine rx_lload_n C 2 dX0_joined_113 rfl rfl ?_
    refine rx_lsub C dX0_joined_114 ?_
    exact rx_lret C dX0_joined_115
  refine rx_if (fun hs27 => ?_) (fun hs27 => ?_)
  · refine rx_tableIn C (tgt := 108) (-12 : Int32) hs27 dX0_joined_1 (by decide) (by decide) rfl (by decide) ?_
    refine rx_lload_n C 1 dX0_joined_108 rfl rfl ?_
    refine rx_lload_n C 2 dX0_joined_109 rfl rfl ?_
    refine rx_ladd C dX0_joined_110 ?_
    exact rx_lret C dX0_joined_111
  refine rx_if (fun hs28 => ?_) (fun hs28 => ?_)
  · refine rx_tableIn C (tgt := 96) (-11 : Int32) hs28 dX0_joined_1 (by decide) (by decide) rfl (by decide) ?_
    refine rx_lload_n C 1 dX0_joined_96 rfl rfl ?_
    refine rx_lload_n C 2 dX0_joined_97 rfl rfl ?_
    refine rx_lcmp C dX0_joined_98 ?_
    refine rx_if_ne C (tgt := 106) dX0_joined_99 (by decide) (fun _ => ?_) (fun _ => ?_)
    · refine rx_lconst C dX0_joined_102 lc_1 ?_
      refine rx_goto C (tgt := 107) dX0_joined_103 (by decide) ?_
      exact RX.loc (w_X0_joined_107 C (1 : Int64) σ) [] rfl
    · refine rx_lconst C dX0_joined_106 lc_0 ?_
      exact RX.loc (w_X0_joined_107 C (0 : Int64) σ) [] rfl
  refine rx_if (fun hs29 => ?_) (fun hs29 => ?_)
  · refine rx_tableIn C (tgt := 84) (-10 : Int32) hs29 dX0_joined_1 (by decide) (by decide) rfl (by decide) ?_
    refine rx_lload_n C 1 dX0_joined_84 rfl rfl ?_
    refine rx_lload_n C 2 dX0_joined_85 rfl rfl ?_
    refine rx_lcmp C dX0_joined_86 ?_
    refine rx_if_le C (tgt := 94) dX0_joined_87 (by decide) (fun _ => ?_) (fun _ => ?_)
    · refine rx_lconst C dX0_joined_94 lc_0 ?_
      exact RX.loc (w_X0_joined_95 C (0 : Int64) σ) [] rfl
    · refine rx_lconst C dX0_joined_90 lc_1 ?_
      refine rx_goto C (tgt := 95) dX0_joined_91 (by decide) ?_
      exact RX.loc (w_X0_joined_95 C (1 : Int64) σ) [] rfl
  refine rx_if (fun hs30 => ?_) (fun hs30 => ?_)
  · refine rx_tableIn C (tgt := 72) (-9 : Int32) hs30 dX0_joined_1 (by decide) (by decide) rfl (by decide) ?_
    refine rx_lload_n C 1 dX0_joined_72 rfl rfl ?_
    refine rx_lload_n C 2 dX0_joined_73 rfl rfl ?_
    refine rx_lcmp C dX0_joined_74 ?_
    refine rx_if_ge C (tgt := 82) dX0_joined_75 (by decide) (fun _ => ?_) (fun _ => ?_)
    · refine rx_lconst C dX0_joined_82 lc_0 ?_
      exact RX.loc (w_X0_joined_83 C (0 : Int64) σ) [] rfl
    · refine rx_lconst C dX0_joined_78 lc_1 ?_
      refine rx_goto C (tgt := 83) dX0_joined_79 (by decide) ?_
      exact RX.loc (w_X0_joined_83 C (1 : Int64) σ) [] rfl
  refine rx_if (fun hs31 => ?_) (fun hs31 => ?_)
  · refine rx_tableIn C (tgt := 68) (-8 : Int32) hs31 dX0_joined_1 (by decide) (by decide) rfl (by decide) ?_
    refine rx_lload_n C 1 dX0_joined_68 rfl rfl ?_
    refine rx_lload_n C 2 dX0_joined_69 rfl rfl ?_
    refine rx_land C dX0_joined_70 ?_
    exact rx_lret C dX0_joined_71
  refine rx_if (fun hs32 => ?_) (fun hs32 => ?_)
  · refine rx_tableIn C (tgt := 64) (-7 : Int32) hs32 dX0_joined_1 (by decide) (by decide) rfl (by decide) ?_
    refine rx_lload_n C 1 dX0_joined_64 rfl rfl ?_
    refine rx_lload_n C 2 dX0_joined_65 rfl rfl ?_
    refine rx_lor C dX0_joined_66 ?_
    exact rx_lret C dX0_joined_67
  refine rx_tableOut C (tgt := 164) dX0_joined_1 (by have := lv_neT (a := -18) hs17 (by decide); have := lv_neT (a := -17) hs19 (by decide); have := lv_neT (a := -16) hs21 (by decide); have := lv_neT (a := -15) hs23 (by decide); have := lv_neT (a := -14) hs25 (by decide); have := lv_neT (a := -13) hs26 (by decide); have := lv_neT (a := -12) hs27 (by decide); have := lv_neT (a := -11) hs28 (by decide); have := lv_neT (a := -10) hs29 (by decide); have := lv_neT (a := -9) hs30 (by decide); have := lv_neT (a := -8) hs31 (by decide); have := lv_neT (a := -7) hs32 (by decide); omega) (by decide) ?_
  refine rx_lconst C dX0_joined_164 lc_0 ?_
  exact rx_lret C dX0_joined_165
theorem m_X0_joined (l : Launch) {α : Nat → Nat} {D : va_G} {cA : Nat → ClassId} (hin : inj shX.length α) (x0 : Int32) (y1 : Int64) (y3 : Int64) (σ : St) : CT shX l yX0_joined cX0_joined 5 (some .long) 1 25 emL α D cA [.int x0, .long y1, .long y3] σ (f_X0_joined x0 y1 y3 σ) := ct_of rfl (Nat.le_of_ble_eq_true rfl) hin (fun z _ C => w_X0_joined_e C x0 y1 y3 σ)
set_option maxRecDepth 100000 in
set_option maxHeartbeats 4000000 in
theorem w_X0_pop_e {α : Nat → Nat} {D : va_G} {cA : Nat → ClassId} {z : Cz} (C : CX shX α D cA z RX0 cX0_pop 1 (some .int) 0 0) (σ : St) : RX emI shX α D cA z 1 σ 0 [(0, .ref (α 15))] [] (f_X0_pop σ) := by
  unfold f_X0_pop
  refine rx_aload_n C 0 dX0_pop_0 rfl rfl ?_
  refine rx_getI C (k := 2) sx_15 fc_X0 (by decide) rfl lk_X0_16 dX0_pop_1 ?_
  refine rx_if_gt C (tgt := 9) dX0_pop_4 (by decide) (fun _ => ?_) (fun _ => ?_)
  · refine rx_aload_n C 0 dX0_pop_9 rfl rfl ?_
    refine rx_dup C dX0_pop_10 rfl ?_
    refine rx_getI C (k := 2) sx_15 fc_X0 (by decide) rfl lk_X0_16 dX0_pop_11 ?_
    refine rx_iconst C dX0_pop_14 ic_1 ?_
    refine rx_isub C dX0_pop_15 ?_
    refine rx_putI C (k := 2) sx_15 fc_X0 (by decide) rfl lk_X0_16 rfl ⟨rfl, rfl⟩ dX0_pop_16 ?_
    refine rx_lts (fun σ2 => ?_)
    refine rx_aload_n C 0 dX0_pop_19 rfl rfl ?_
    refine rx_getC C (k := 0) sx_15 fc_X0 (by decide) 16 rfl lk_X0_9 dX0_pop_20 ?_
    refine rx_aload_n C 0 dX0_pop_23 rfl rfl ?_
    refine rx_getI C (k := 2) sx_15 fc_X0 (by decide) rfl lk_X0_16 dX0_pop_24 ?_
    refine rx_iald C (n := 64) sx_16 dX0_pop_27 (fun _ => ?_)
    exact rx_iret C dX0_pop_28
  · refine rx_iconst C dX0_pop_7 ic_0 ?_
    exact rx_iret C dX0_pop_8
theorem m_X0_pop (l : Launch) {α : Nat → Nat} {D : va_G} {cA : Nat → ClassId} (hin : inj shX.length α) (σ : St) : CT shX l yX0_pop cX0_pop 1 (some .int) 0 0 emI α D cA [.ref (α 15)] σ (f_X0_pop σ) := ct_of rfl (Nat.le_of_ble_eq_true rfl) hin (fun z _ C => w_X0_pop_e C σ)
set_option maxRecDepth 100000 in
set_option maxHeartbeats 4000000 in
theorem w_X0_push_29 {α : Nat → Nat} {D : va_G} {cA : Nat → ClassId} {z : Cz} (C : CX shX α D cA z RX0 cX0_push 2 none 0 0) (σ : St) : RX emV shX α D cA z 2 σ 29 [] [] (f_X0_push_29 σ) := by
  unfold f_X0_push_29
  exact rx_vret C dX0_push_29
set_option maxRecDepth 100000 in
set_option maxHeartbeats 4000000 in
theorem w_X0_push_e {α : Nat → Nat} {D : va_G} {cA : Nat → ClassId} {z : Cz} (C : CX shX α D cA z RX0 cX0_push 2 none 0 0) (x1 : Int32) (σ : St) : RX emV shX α D cA z 2 σ 0 [(0, .ref (α 15)), (1, .int x1)] [] (f_X0_push x1 σ) := by
  unfold f_X0_push
  refine rx_aload_n C 0 dX0_push_0 rfl rfl ?_
  refine rx_getI C (k := 2) sx_15 fc_X0 (by decide) rfl lk_X0_16 dX0_push_1 ?_
  refine rx_bipush C dX0_push_4 bp_64 ?_
  refine rx_icmp_ge C (tgt := 29) dX0_push_6 (by decide) (fun _ => ?_) (fun _ => ?_)
  · exact RX.loc (w_X0_push_29 C σ) [] rfl
  · refine rx_aload_n C 0 dX0_push_9 rfl rfl ?_
    refine rx_getC C (k := 0) sx_15 fc_X0 (by decide) 16 rfl lk_X0_9 dX0_push_10 ?_
    refine rx_aload_n C 0 dX0_push_13 rfl rfl ?_
    refine rx_getI C (k := 2) sx_15 fc_X0 (by decide) rfl lk_X0_16 dX0_push_14 ?_
    refine rx_iload_n C 1 dX0_push_17 rfl rfl ?_
    refine rx_iast C (n := 64) sx_16 dX0_push_18 (fun _ => ?_)
    refine rx_lts (fun σ3 => ?_)
    refine rx_aload_n C 0 dX0_push_19 rfl rfl ?_
    refine rx_dup C dX0_push_20 rfl ?_
    refine rx_getI C (k := 2) sx_15 fc_X0 (by decide) rfl lk_X0_16 dX0_push_21 ?_
    refine rx_iconst C dX0_push_24 ic_1 ?_
    refine rx_iadd C dX0_push_25 ?_
    refine rx_putI C (k := 2) sx_15 fc_X0 (by decide) rfl lk_X0_16 rfl ⟨rfl, rfl⟩ dX0_push_26 ?_
    refine rx_lts (fun σ4 => ?_)
    exact RX.loc (w_X0_push_29 C σ4) [] rfl
theorem m_X0_push (l : Launch) {α : Nat → Nat} {D : va_G} {cA : Nat → ClassId} (hin : inj shX.length α) (x1 : Int32) (σ : St) : CT shX l yX0_push cX0_push 2 none 0 0 emV α D cA [.ref (α 15), .int x1] σ (f_X0_push x1 σ) := ct_of rfl (Nat.le_of_ble_eq_true rfl) hin (fun z _ C => w_X0_push_e C x1 σ)
set_option maxRecDepth 100000 in
set_option maxHeartbeats 4000000 in
theorem w_X0_run_120 {α : Nat → Nat} {D : va_G} {cA : Nat → ClassId} {z : Cz} (C : CX shX α D cA z RX0 cX0_run 7 (some .int) 2 49) (r1 : Nat) (hr1 : arI r1) (σ : St) : RX emI shX α D cA z 7 σ 120 [(0, .ref (α 15))] [] (f_X0_run_120 r1 σ) := by
  unfold f_X0_run_120
  refine rx_aload_n C 0 dX0_run_120 rfl rfl ?_
  refine rx_callVi C [] [] (m_X0_pop z.l C.inj σ) mv_X0_pop lk_X0_49 sx_15 rfl rfl rfl (Nat.le_of_ble_eq_true rfl) ⟨Nat.le_of_ble_eq_true rfl, Nat.le_of_ble_eq_true rfl⟩ dX0_run_121 (fun q16 => ?_)
  exact rx_iret C dX0_run_124
set_option maxRecDepth 100000 in
set_option maxHeartbeats 4000000 in
theorem w_X0_run_114 {α : Nat → Nat} {D : va_G} {cA : Nat → ClassId} {z : Cz} (C : CX shX α D cA z RX0 cX0_run 7 (some .int) 2 49) (r1 : Nat) (hr1 : arI r1) (k_12 : Int32 → Int32 → St → Option (Int32 × St)) (hk_12 : ∀ (x3 : Int32) (x4 : Int32) (σ : St), RX emI shX α D cA z 7 σ 12 [(0, .ref (α 15)), (1, .ref (α r1)), (3, .int x3), (4, .int x4)] [] (k_12 x3 x4 σ)) (x3 : Int32) (x4 : Int32) (σ : St) : RX emI shX α D cA z 7 σ 114 [(0, .ref (α 15)), (1, .ref (α r1)), (3, .int x3), (4, .int x4)] [] (f_X0_run_114 r1 k_12 x3 x4 σ) := by
  unfold f_X0_run_114
  refine rx_iinc C (k0 := 3) (v := x4 + (1 : Int32)) [(4, .int (x4 + (1 : Int32))), (0, .ref (α 15)), (1, .ref (α r1)), (3, .int x3)] dX0_run_114 rfl (congrArg _ ic_1) (by decide) rfl ?_
  refine rx_goto C (tgt := 12) dX0_run_117 (by decide) ?_
  exact RX.loc (hk_12 x3 (x4 + (1 : Int32)) σ) [1, 2, 3, 0] rfl
set_option maxRecDepth 100000 in
set_option maxHeartbeats 4000000 in
theorem w_X0_run_12 {α : Nat → Nat} {D : va_G} {cA : Nat → ClassId} {z : Cz} (C : CX shX α D cA z RX0 cX0_run 7 (some .int) 2 49) (r1 : Nat) (hr1 : arI r1) : ∀ (n : Nat) (x3 : Int32) (x4 : Int32) (σ : St), RX emI shX α D cA z 7 σ 12 [(0, .ref (α 15)), (1, .ref (α r1)), (3, .int x3), (4, .int x4)] [] (f_X0_run_12 r1 n x3 x4 σ) := by
  intro n
  induction n with
  | zero => intros; exact rx_none
  | succ n hk_12 =>
    intro x3 x4 σ
    rw [f_X0_run_12.eq_2]
    refine rx_iload C 3 dX0_run_12 rfl ?_
    refine rx_iload_n C 2 dX0_run_14 rfl rfl ?_
    refine rx_icmp_ge C (tgt := 120) dX0_run_15 (by decide) (fun _ => ?_) (fun _ => ?_)
    · exact RX.loc (w_X0_run_120 C r1 hr1 σ) [0] rfl
    · refine rx_iload C 3 dX0_run_18 rfl ?_
      refine rx_aload_n C 1 dX0_run_20 rfl rfl ?_
      refine rx_alen C (n := (lnX r1)) hr1 rfl dX0_run_21 ?_
      refine rx_icmp_ge C (tgt := 120) dX0_run_22 (by decide) (fun _ => ?_) (fun _ => ?_)
      · exact RX.loc (w_X0_run_120 C r1 hr1 σ) [0] rfl
      · refine rx_aload_n C 1 dX0_run_25 rfl rfl ?_
        refine rx_iload C 3 dX0_run_26 rfl ?_
        refine rx_iald C (n := (lnX r1)) hr1 dX0_run_28 (fun _ => ?_)
        refine rx_lti (fun w17 => ?_)
        refine rx_istore C [(5, .int w17), (0, .ref (α 15)), (1, .ref (α r1)), (3, .int x3), (4, .int x4)] dX0_run_29 (by decide) rfl ?_
        refine rx_iload C 0 dX0_run_31 rfl ?_
        refine rx_if_lt C (tgt := 45) dX0_run_33 (by decide) (fun _ => ?_) (fun _ => ?_)
        · refine rx_iload C 0 dX0_run_45 rfl ?_
          refine rx_bipush C dX0_run_47 bp_m5 ?_
          refine rx_icmp_lt C (tgt := 68) dX0_run_49 (by decide) (fun _ => ?_) (fun _ => ?_)
          · refine rx_iload C 0 dX0_run_68 rfl ?_
            refine rx_bipush C dX0_run_70 bp_m6 ?_
            refine rx_icmp_ne C (tgt := 88) dX0_run_72 (by decide) (fun _ => ?_) (fun _ => ?_)
            · refine rx_aload_n C 1 dX0_run_75 rfl rfl ?_
              refine rx_iconst C dX0_run_76 ic_1 ?_
              refine rx_aload_n C 1 dX0_run_77 rfl rfl ?_
              refine rx_callVi C [] [.int (1 : Int32), .ref (α 15)] (m_X0_pop z.l C.inj σ) mv_X0_pop lk_X0_49 sx_15 rfl rfl rfl (Nat.le_of_ble_eq_true rfl) ⟨Nat.le_of_ble_eq_true rfl, Nat.le_of_ble_eq_true rfl⟩ dX0_run_78 (fun q18 => ?_)
              refine rx_isub C dX0_run_81 ?_
              refine rx_callVv C [.int ((1 : Int32) - q18.1)] [] (m_X0_push z.l C.inj ((1 : Int32) - q18.1) q18.2) mv_X0_push lk_X0_45 sx_15 rfl rfl rfl (Nat.le_of_ble_eq_true rfl) ⟨Nat.le_of_ble_eq_true rfl, Nat.le_of_ble_eq_true rfl⟩ dX0_run_82 (fun q19 => ?_)
              refine rx_goto C (tgt := 114) dX0_run_85 (by decide) ?_
              exact RX.loc (w_X0_run_114 C r1 hr1 (f_X0_run_12 r1 n) hk_12 x3 x4 q19.2) [1, 2, 3, 4] rfl
            · refine rx_aload_n C 1 dX0_run_88 rfl rfl ?_
              refine rx_callVi C [] [] (m_X0_pop z.l C.inj σ) mv_X0_pop lk_X0_49 sx_15 rfl rfl rfl (Nat.le_of_ble_eq_true rfl) ⟨Nat.le_of_ble_eq_true rfl, Nat.le_of_ble_eq_true rfl⟩ dX0_run_89 (fun q20 => ?_)
              refine rx_istore C [(6, .int q20.1), (5, .int w17), (0, .ref (α 15)), (1, .ref (α r1)), (3, .int x3), (4, .int x4)] dX0_run_92 (by decide) rfl ?_
              refine rx_aload_n C 2 dX0_run_94 rfl rfl ?_
              refine rx_iload C 1 dX0_run_95 rfl ?_
              refine rx_aload_n C 2 dX0_run_97 rfl rfl ?_
              refine rx_callVi C [] [.int w17, .ref (α 15)] (m_X0_pop z.l C.inj q20.2) mv_X0_pop lk_X0_49 sx_15 rfl rfl rfl (Nat.le_of_ble_eq_true rfl) ⟨Nat.le_of_ble_eq_true rfl, Nat.le_of_ble_eq_true rfl⟩ dX0_run_98 (fun q21 => ?_)
              refine rx_i2l C dX0_run_101 ?_
              refine rx_iload C 0 dX0_run_102 rfl ?_
              refine rx_i2l C dX0_run_104 ?_
              refine rx_callSl C [.int w17, .long ((q21.1).toInt64), .long ((q20.1).toInt64)] [.ref (α 15)] (m_X0_joined z.l C.inj w17 ((q21.1).toInt64) ((q20.1).toInt64) q21.2) ms_X0_joined lk_X0_53 rfl rfl (Nat.le_of_ble_eq_true rfl) ⟨Nat.le_of_ble_eq_true rfl, Nat.le_of_ble_eq_true rfl⟩ dX0_run_105 (fun q22 => ?_)
              refine rx_callSi C [.long q22.1] [.ref (α 15)] (m_X0_held z.l C.inj q22.1 q22.2) ms_X0_held lk_X0_57 rfl rfl (Nat.le_of_ble_eq_true rfl) ⟨Nat.le_of_ble_eq_true rfl, Nat.le_of_ble_eq_true rfl⟩ dX0_run_108 (fun q23 => ?_)
              refine rx_callVv C [.int q23.1] [] (m_X0_push z.l C.inj q23.1 q23.2) mv_X0_push lk_X0_45 sx_15 rfl rfl rfl (Nat.le_of_ble_eq_true rfl) ⟨Nat.le_of_ble_eq_true rfl, Nat.le_of_ble_eq_true rfl⟩ dX0_run_111 (fun q24 => ?_)
              exact RX.loc (w_X0_run_114 C r1 hr1 (f_X0_run_12 r1 n) hk_12 x3 x4 q24.2) [2, 3, 4, 5] rfl
          · refine rx_aload_n C 1 dX0_run_52 rfl rfl ?_
            refine rx_aload_n C 1 dX0_run_53 rfl rfl ?_
            refine rx_getC C (k := 1) sx_15 fc_X0 (by decide) 17 rfl lk_X0_13 dX0_run_54 ?_
            refine rx_iconst C dX0_run_57 ic_m1 ?_
            refine rx_iload C 0 dX0_run_58 rfl ?_
            refine rx_isub C dX0_run_60 ?_
            refine rx_iald C (n := 5) sx_17 dX0_run_61 (fun _ => ?_)
            refine rx_callVv C [.int (gI σ 17 (ix ((-1 : Int32) - w17)))] [] (m_X0_push z.l C.inj (gI σ 17 (ix ((-1 : Int32) - w17))) σ) mv_X0_push lk_X0_45 sx_15 rfl rfl rfl (Nat.le_of_ble_eq_true rfl) ⟨Nat.le_of_ble_eq_true rfl, Nat.le_of_ble_eq_true rfl⟩ dX0_run_62 (fun q25 => ?_)
            refine rx_goto C (tgt := 114) dX0_run_65 (by decide) ?_
            exact RX.loc (w_X0_run_114 C r1 hr1 (f_X0_run_12 r1 n) hk_12 x3 x4 q25.2) [1, 2, 3, 4] rfl
        · refine rx_aload_n C 1 dX0_run_36 rfl rfl ?_
          refine rx_iload C 0 dX0_run_37 rfl ?_
          refine rx_callVv C [.int w17] [] (m_X0_push z.l C.inj w17 σ) mv_X0_push lk_X0_45 sx_15 rfl rfl rfl (Nat.le_of_ble_eq_true rfl) ⟨Nat.le_of_ble_eq_true rfl, Nat.le_of_ble_eq_true rfl⟩ dX0_run_39 (fun q26 => ?_)
          refine rx_goto C (tgt := 114) dX0_run_42 (by decide) ?_
          exact RX.loc (w_X0_run_114 C r1 hr1 (f_X0_run_12 r1 n) hk_12 x3 x4 q26.2) [1, 2, 3, 4] rfl
set_option maxRecDepth 100000 in
set_option maxHeartbeats 4000000 in
theorem w_X0_run_e {α : Nat → Nat} {D : va_G} {cA : Nat → ClassId} {z : Cz} (C : CX shX α D cA z RX0 cX0_run 7 (some .int) 2 49) (r1 : Nat) (hr1 : arI r1) (x2 : Int32) (x3 : Int32) (σ : St) : RX emI shX α D cA z 7 σ 0 [(0, .ref (α 15)), (1, .ref (α r1)), (2, .int x2), (3, .int x3)] [] (f_X0_run r1 x2 x3 σ) := by
  unfold f_X0_run
  refine rx_aload_n C 0 dX0_run_0 rfl rfl ?_
  refine rx_iconst C dX0_run_1 ic_0 ?_
  refine rx_putI C (k := 2) sx_15 fc_X0 (by decide) rfl lk_X0_16 rfl ⟨rfl, rfl⟩ dX0_run_2 ?_
  refine rx_lts (fun σ14 => ?_)
  refine rx_iconst C dX0_run_5 ic_0 ?_
  refine rx_iload_n C 2 dX0_run_6 rfl rfl ?_
  refine rx_callSi C [.int (0 : Int32), .int x2] [] (m_J9_max_7cf53 z.l C.inj (0 : Int32) x2 σ14) ms_J9_max_7cf53 lk_X0_40 rfl rfl (Nat.le_of_ble_eq_true rfl) ⟨Nat.le_of_ble_eq_true rfl, Nat.le_of_ble_eq_true rfl⟩ dX0_run_7 (fun q15 => ?_)
  refine rx_istore C [(4, .int q15.1), (0, .ref (α 15)), (1, .ref (α r1)), (2, .int x2), (3, .int x3)] dX0_run_10 (by decide) rfl ?_
  exact RX.loc (w_X0_run_12 C r1 hr1 FU x3 q15.1 q15.2) [1, 2, 4, 0] rfl
theorem m_X0_run (l : Launch) {α : Nat → Nat} {D : va_G} {cA : Nat → ClassId} (hin : inj shX.length α) (r1 : Nat) (hr1 : arI r1) (x2 : Int32) (x3 : Int32) (σ : St) : CT shX l yX0_run cX0_run 7 (some .int) 2 49 emI α D cA [.ref (α 15), .ref (α r1), .int x2, .int x3] σ (f_X0_run r1 x2 x3 σ) := ct_of rfl (Nat.le_of_ble_eq_true rfl) hin (fun z _ C => w_X0_run_e C r1 hr1 x2 x3 σ)
set_option maxRecDepth 100000 in
set_option maxHeartbeats 4000000 in
theorem w_X8_get_41 {α : Nat → Nat} {D : va_G} {cA : Nat → ClassId} {z : Cz} (C : CX shX α D cA z RX8 cX8_get 3 (some .int) 0 0) (r0 : Nat) (hr0 : isRoll r0) (s0 : Int32) (σ : St) : RX emI shX α D cA z 3 σ 41 [] [.int s0] (f_X8_get_41 r0 s0 σ) := by
  unfold f_X8_get_41
  exact rx_iret C dX8_get_41
set_option maxRecDepth 100000 in
set_option maxHeartbeats 4000000 in
theorem w_X8_get_40 {α : Nat → Nat} {D : va_G} {cA : Nat → ClassId} {z : Cz} (C : CX shX α D cA z RX8 cX8_get 3 (some .int) 0 0) (r0 : Nat) (hr0 : isRoll r0) (σ : St) : RX emI shX α D cA z 3 σ 40 [] [] (f_X8_get_40 r0 σ) := by
  unfold f_X8_get_40
  refine rx_iconst C dX8_get_40 ic_m1 ?_
  exact RX.loc (w_X8_get_41 C r0 hr0 (-1 : Int32) σ) [] rfl
set_option maxRecDepth 100000 in
set_option maxHeartbeats 4000000 in
theorem w_X8_get_e {α : Nat → Nat} {D : va_G} {cA : Nat → ClassId} {z : Cz} (C : CX shX α D cA z RX8 cX8_get 3 (some .int) 0 0) (r0 : Nat) (hr0 : isRoll r0) (x1 : Int32) (x2 : Int32) (σ : St) : RX emI shX α D cA z 3 σ 0 [(0, .ref (α r0)), (1, .int x1), (2, .int x2)] [] (f_X8_get r0 x1 x2 σ) := by
  unfold f_X8_get
  refine rx_iload_n C 1 dX8_get_0 rfl rfl ?_
  refine rx_if_lt C (tgt := 40) dX8_get_1 (by decide) (fun _ => ?_) (fun _ => ?_)
  · exact RX.loc (w_X8_get_40 C r0 hr0 σ) [] rfl
  · refine rx_iload_n C 1 dX8_get_4 rfl rfl ?_
    refine rx_aload_n C 0 dX8_get_5 rfl rfl ?_
    refine rx_getI C (k := 4) (ro_sh hr0) fc_X8 (by decide) rfl lk_X8_25 dX8_get_6 ?_
    refine rx_icmp_ge C (tgt := 40) dX8_get_9 (by decide) (fun _ => ?_) (fun _ => ?_)
    · exact RX.loc (w_X8_get_40 C r0 hr0 σ) [] rfl
    · refine rx_iload_n C 2 dX8_get_12 rfl rfl ?_
      refine rx_if_lt C (tgt := 40) dX8_get_13 (by decide) (fun _ => ?_) (fun _ => ?_)
      · exact RX.loc (w_X8_get_40 C r0 hr0 σ) [] rfl
      · refine rx_iload_n C 2 dX8_get_16 rfl rfl ?_
        refine rx_aload_n C 0 dX8_get_17 rfl rfl ?_
        refine rx_getI C (k := 1) (ro_sh hr0) fc_X8 (by decide) rfl lk_X8_15 dX8_get_18 ?_
        refine rx_icmp_ge C (tgt := 40) dX8_get_21 (by decide) (fun _ => ?_) (fun _ => ?_)
        · exact RX.loc (w_X8_get_40 C r0 hr0 σ) [] rfl
        · refine rx_aload_n C 0 dX8_get_24 rfl rfl ?_
          refine rx_getC C (k := 3) (ro_sh hr0) fc_X8 (by decide) (r0 + 2) rfl lk_X8_22 dX8_get_25 ?_
          refine rx_iload_n C 1 dX8_get_28 rfl rfl ?_
          refine rx_aload_n C 0 dX8_get_29 rfl rfl ?_
          refine rx_getI C (k := 1) (ro_sh hr0) fc_X8 (by decide) rfl lk_X8_15 dX8_get_30 ?_
          refine rx_imul C dX8_get_33 ?_
          refine rx_iload_n C 2 dX8_get_34 rfl rfl ?_
          refine rx_iadd C dX8_get_35 ?_
          refine rx_iald C (n := (lnX (r0 + 2))) (ro_2 hr0) dX8_get_36 (fun _ => ?_)
          refine rx_goto C (tgt := 41) dX8_get_37 (by decide) ?_
          exact RX.loc (w_X8_get_41 C r0 hr0 (gI σ (r0 + 2) (ix ((x1 * (gI σ r0 1)) + x2))) σ) [] rfl
theorem m_X8_get (l : Launch) {α : Nat → Nat} {D : va_G} {cA : Nat → ClassId} (hin : inj shX.length α) (r0 : Nat) (hr0 : isRoll r0) (x1 : Int32) (x2 : Int32) (σ : St) : CT shX l yX8_get cX8_get 3 (some .int) 0 0 emI α D cA [.ref (α r0), .int x1, .int x2] σ (f_X8_get r0 x1 x2 σ) := ct_of rfl (Nat.le_of_ble_eq_true rfl) hin (fun z _ C => w_X8_get_e C r0 hr0 x1 x2 σ)
set_option maxRecDepth 100000 in
set_option maxHeartbeats 4000000 in
theorem w_X0_firstLaw_2 {α : Nat → Nat} {D : va_G} {cA : Nat → ClassId} {z : Cz} (C : CX shX α D cA z RX0 cX0_firstLaw 4 (some .int) 3 75) (r1 : Nat) (hr1 : isLand r1) : ∀ (n : Nat) (x2 : Int32) (σ : St), RX emI shX α D cA z 4 σ 2 [(0, .ref (α 15)), (1, .ref (α r1)), (2, .int x2)] [] (f_X0_firstLaw_2 r1 n x2 σ) := by
  intro n
  induction n with
  | zero => intros; exact rx_none
  | succ n hk_2 =>
    intro x2 σ
    rw [f_X0_firstLaw_2.eq_2]
    refine rx_iload_n C 2 dX0_firstLaw_2 rfl rfl ?_
    refine rx_aload_n C 1 dX0_firstLaw_3 rfl rfl ?_
    refine rx_getC C (k := 3) (ld_sh hr1) fc_X4 (by decide) (r1 + 10) rfl lk_X0_20 dX0_firstLaw_4 ?_
    refine rx_getI C (k := 4) (ro_sh (ld_10 hr1)) fc_X8 (by decide) rfl lk_X0_26 dX0_firstLaw_7 ?_
    refine rx_icmp_ge C (tgt := 69) dX0_firstLaw_10 (by decide) (fun _ => ?_) (fun _ => ?_)
    · refine rx_iconst C dX0_firstLaw_69 ic_0 ?_
      exact rx_iret C dX0_firstLaw_70
    · refine rx_aload_n C 1 dX0_firstLaw_13 rfl rfl ?_
      refine rx_getC C (k := 3) (ld_sh hr1) fc_X4 (by decide) (r1 + 10) rfl lk_X0_20 dX0_firstLaw_14 ?_
      refine rx_iload_n C 2 dX0_firstLaw_17 rfl rfl ?_
      refine rx_iconst C dX0_firstLaw_18 ic_1 ?_
      refine rx_callVi C [.int x2, .int (1 : Int32)] [] (m_X8_get z.l C.inj (r1 + 10) (ld_10 hr1) x2 (1 : Int32) σ) mv_X8_get lk_X0_29 (ro_sh (ld_10 hr1)) rfl rfl rfl (Nat.le_of_ble_eq_true rfl) ⟨Nat.le_of_ble_eq_true rfl, Nat.le_of_ble_eq_true rfl⟩ dX0_firstLaw_19 (fun q6 => ?_)
      refine rx_istore_n C [(3, .int q6.1), (0, .ref (α 15)), (1, .ref (α r1)), (2, .int x2)] dX0_firstLaw_22 rfl (by decide) rfl ?_
      refine rx_aload_n C 1 dX0_firstLaw_23 rfl rfl ?_
      refine rx_aload_n C 2 dX0_firstLaw_24 rfl rfl ?_
      refine rx_getC C (k := 8) (ld_sh hr1) fc_X4 (by decide) (r1 + 19) rfl lk_X0_33 dX0_firstLaw_25 ?_
      refine rx_iload_n C 0 dX0_firstLaw_28 rfl rfl ?_
      refine rx_aload_n C 2 dX0_firstLaw_29 rfl rfl ?_
      refine rx_getC C (k := 3) (ld_sh hr1) fc_X4 (by decide) (r1 + 10) rfl lk_X0_20 dX0_firstLaw_30 ?_
      refine rx_iload_n C 3 dX0_firstLaw_33 rfl rfl ?_
      refine rx_iconst C dX0_firstLaw_34 ic_2 ?_
      refine rx_callVi C [.int x2, .int (2 : Int32)] [.int q6.1, .ref (α (r1 + 19)), .ref (α 15)] (m_X8_get z.l C.inj (r1 + 10) (ld_10 hr1) x2 (2 : Int32) q6.2) mv_X8_get lk_X0_29 (ro_sh (ld_10 hr1)) rfl rfl rfl (Nat.le_of_ble_eq_true rfl) ⟨Nat.le_of_ble_eq_true rfl, Nat.le_of_ble_eq_true rfl⟩ dX0_firstLaw_35 (fun q7 => ?_)
      refine rx_callVi C [.ref (α (r1 + 19)), .int q6.1, .int q7.1] [] (m_X0_run z.l C.inj (r1 + 19) (ld_19 hr1) q6.1 q7.1 q7.2) mv_X0_run lk_X0_36 sx_15 rfl rfl rfl (Nat.le_of_ble_eq_true rfl) ⟨Nat.le_of_ble_eq_true rfl, Nat.le_of_ble_eq_true rfl⟩ dX0_firstLaw_38 (fun q8 => ?_)
      refine rx_if_eq C (tgt := 63) dX0_firstLaw_41 (by decide) (fun _ => ?_) (fun _ => ?_)
      · refine rx_iinc C (k0 := 3) (v := x2 + (1 : Int32)) [(2, .int (x2 + (1 : Int32))), (3, .int q6.1), (0, .ref (α 15)), (1, .ref (α r1))] dX0_firstLaw_63 rfl (congrArg _ ic_1) (by decide) rfl ?_
        refine rx_goto C (tgt := 2) dX0_firstLaw_66 (by decide) ?_
        exact RX.loc (hk_2 (x2 + (1 : Int32)) q8.2) [2, 3, 0] rfl
      · refine rx_aload_n C 1 dX0_firstLaw_44 rfl rfl ?_
        refine rx_aload_n C 2 dX0_firstLaw_45 rfl rfl ?_
        refine rx_getC C (k := 8) (ld_sh hr1) fc_X4 (by decide) (r1 + 19) rfl lk_X0_33 dX0_firstLaw_46 ?_
        refine rx_aload_n C 2 dX0_firstLaw_49 rfl rfl ?_
        refine rx_getC C (k := 3) (ld_sh hr1) fc_X4 (by decide) (r1 + 10) rfl lk_X0_20 dX0_firstLaw_50 ?_
        refine rx_iload_n C 3 dX0_firstLaw_53 rfl rfl ?_
        refine rx_iconst C dX0_firstLaw_54 ic_0 ?_
        refine rx_callVi C [.int x2, .int (0 : Int32)] [.ref (α (r1 + 19)), .ref (α 15)] (m_X8_get z.l C.inj (r1 + 10) (ld_10 hr1) x2 (0 : Int32) q8.2) mv_X8_get lk_X0_29 (ro_sh (ld_10 hr1)) rfl rfl rfl (Nat.le_of_ble_eq_true rfl) ⟨Nat.le_of_ble_eq_true rfl, Nat.le_of_ble_eq_true rfl⟩ dX0_firstLaw_55 (fun q9 => ?_)
        refine rx_iload_n C 0 dX0_firstLaw_58 rfl rfl ?_
        refine rx_callVi C [.ref (α (r1 + 19)), .int q9.1, .int q6.1] [] (m_X0_run z.l C.inj (r1 + 19) (ld_19 hr1) q9.1 q6.1 q9.2) mv_X0_run lk_X0_36 sx_15 rfl rfl rfl (Nat.le_of_ble_eq_true rfl) ⟨Nat.le_of_ble_eq_true rfl, Nat.le_of_ble_eq_true rfl⟩ dX0_firstLaw_59 (fun q10 => ?_)
        exact rx_iret C dX0_firstLaw_62
set_option maxRecDepth 100000 in
set_option maxHeartbeats 4000000 in
theorem w_X0_firstLaw_e {α : Nat → Nat} {D : va_G} {cA : Nat → ClassId} {z : Cz} (C : CX shX α D cA z RX0 cX0_firstLaw 4 (some .int) 3 75) (r1 : Nat) (hr1 : isLand r1) (σ : St) : RX emI shX α D cA z 4 σ 0 [(0, .ref (α 15)), (1, .ref (α r1))] [] (f_X0_firstLaw r1 σ) := by
  unfold f_X0_firstLaw
  refine rx_iconst C dX0_firstLaw_0 ic_0 ?_
  refine rx_istore_n C [(2, .int (0 : Int32)), (0, .ref (α 15)), (1, .ref (α r1))] dX0_firstLaw_1 rfl (by decide) rfl ?_
  exact RX.loc (w_X0_firstLaw_2 C r1 hr1 FU (0 : Int32) σ) [1, 2, 0] rfl
theorem m_X0_firstLaw (l : Launch) {α : Nat → Nat} {D : va_G} {cA : Nat → ClassId} (hin : inj shX.length α) (r1 : Nat) (hr1 : isLand r1) (σ : St) : CT shX l yX0_firstLaw cX0_firstLaw 4 (some .int) 3 75 emI α D cA [.ref (α 15), .ref (α r1)] σ (f_X0_firstLaw r1 σ) := ct_of rfl (Nat.le_of_ble_eq_true rfl) hin (fun z _ C => w_X0_firstLaw_e C r1 hr1 σ)
set_option maxRecDepth 100000 in
set_option maxHeartbeats 4000000 in
theorem w_X7_clear_e {α : Nat → Nat} {D : va_G} {cA : Nat → ClassId} {z : Cz} (C : CX shX α D cA z RX7 cX7_clear 1 none 0 0) (r0 : Nat) (hr0 : isRing r0) (σ : St) : RX emV shX α D cA z 1 σ 0 [(0, .ref (α r0))] [] (f_X7_clear r0 σ) := by
  unfold f_X7_clear
  refine rx_aload_n C 0 dX7_clear_0 rfl rfl ?_
  refine rx_iconst C dX7_clear_1 ic_0 ?_
  refine rx_putI C (k := 3) (ri_sh hr0) fc_X7 (by decide) rfl lk_X7_22 rfl ⟨rfl, rfl⟩ dX7_clear_2 ?_
  refine rx_lts (fun σ3 => ?_)
  refine rx_aload_n C 0 dX7_clear_5 rfl rfl ?_
  refine rx_iconst C dX7_clear_6 ic_0 ?_
  refine rx_putI C (k := 4) (ri_sh hr0) fc_X7 (by decide) rfl lk_X7_25 rfl ⟨rfl, rfl⟩ dX7_clear_7 ?_
  refine rx_lts (fun σ4 => ?_)
  exact rx_vret C dX7_clear_10
theorem m_X7_clear (l : Launch) {α : Nat → Nat} {D : va_G} {cA : Nat → ClassId} (hin : inj shX.length α) (r0 : Nat) (hr0 : isRing r0) (σ : St) : CT shX l yX7_clear cX7_clear 1 none 0 0 emV α D cA [.ref (α r0)] σ (f_X7_clear r0 σ) := ct_of rfl (Nat.le_of_ble_eq_true rfl) hin (fun z _ C => w_X7_clear_e C r0 hr0 σ)
set_option maxRecDepth 100000 in
set_option maxHeartbeats 4000000 in
theorem w_X1_forget_e {α : Nat → Nat} {D : va_G} {cA : Nat → ClassId} {z : Cz} (C : CX shX α D cA z RX1 cX1_forget 1 none 1 20) (σ : St) : RX emV shX α D cA z 1 σ 0 [(0, .ref (α 18))] [] (f_X1_forget σ) := by
  unfold f_X1_forget
  refine rx_aload_n C 0 dX1_forget_0 rfl rfl ?_
  refine rx_getC C (k := 2) sx_18 fc_X1 (by decide) 19 rfl lk_X1_24 dX1_forget_1 ?_
  refine rx_callVv C [] [] (m_X7_clear z.l C.inj 19 rn_19 σ) mv_X7_clear lk_X1_39 sx_19 rfl rfl rfl (Nat.le_of_ble_eq_true rfl) ⟨Nat.le_of_ble_eq_true rfl, Nat.le_of_ble_eq_true rfl⟩ dX1_forget_4 (fun q3 => ?_)
  refine rx_aload_n C 0 dX1_forget_7 rfl rfl ?_
  refine rx_getC C (k := 3) sx_18 fc_X1 (by decide) 21 rfl lk_X1_31 dX1_forget_8 ?_
  refine rx_iconst C dX1_forget_11 ic_0 ?_
  refine rx_putI C (k := 4) sx_21 fc_X8 (by decide) rfl lk_X1_42 rfl ⟨rfl, rfl⟩ dX1_forget_12 ?_
  refine rx_lts (fun σ4 => ?_)
  exact rx_vret C dX1_forget_15
theorem m_X1_forget (l : Launch) {α : Nat → Nat} {D : va_G} {cA : Nat → ClassId} (hin : inj shX.length α) (σ : St) : CT shX l yX1_forget cX1_forget 1 none 1 20 emV α D cA [.ref (α 18)] σ (f_X1_forget σ) := ct_of rfl (Nat.le_of_ble_eq_true rfl) hin (fun z _ C => w_X1_forget_e C σ)
set_option maxRecDepth 100000 in
set_option maxHeartbeats 4000000 in
theorem w_X7_place_25 {α : Nat → Nat} {D : va_G} {cA : Nat → ClassId} {z : Cz} (C : CX shX α D cA z RX7 cX7_place 3 (some .int) 0 0) (r0 : Nat) (hr0 : isRing r0) (s0 : Int32) (σ : St) : RX emI shX α D cA z 3 σ 25 [] [.int s0] (f_X7_place_25 r0 s0 σ) := by
  unfold f_X7_place_25
  exact rx_iret C dX7_place_25
set_option maxRecDepth 100000 in
set_option maxHeartbeats 4000000 in
theorem w_X7_place_e {α : Nat → Nat} {D : va_G} {cA : Nat → ClassId} {z : Cz} (C : CX shX α D cA z RX7 cX7_place 3 (some .int) 0 0) (r0 : Nat) (hr0 : isRing r0) (x1 : Int32) (σ : St) : RX emI shX α D cA z 3 σ 0 [(0, .ref (α r0)), (1, .int x1)] [] (f_X7_place r0 x1 σ) := by
  unfold f_X7_place
  refine rx_aload_n C 0 dX7_place_0 rfl rfl ?_
  refine rx_getI C (k := 3) (ri_sh hr0) fc_X7 (by decide) rfl lk_X7_22 dX7_place_1 ?_
  refine rx_iload_n C 1 dX7_place_4 rfl rfl ?_
  refine rx_iadd C dX7_place_5 ?_
  refine rx_lti (fun w2 => ?_)
  refine rx_istore_n C [(2, .int w2), (0, .ref (α r0)), (1, .int x1)] dX7_place_6 rfl (by decide) rfl ?_
  refine rx_iload_n C 0 dX7_place_7 rfl rfl ?_
  refine rx_aload_n C 1 dX7_place_8 rfl rfl ?_
  refine rx_getI C (k := 0) (ri_sh hr0) fc_X7 (by decide) rfl lk_X7_9 dX7_place_9 ?_
  refine rx_icmp_ge C (tgt := 19) dX7_place_12 (by decide) (fun _ => ?_) (fun _ => ?_)
  · refine rx_iload_n C 0 dX7_place_19 rfl rfl ?_
    refine rx_aload_n C 1 dX7_place_20 rfl rfl ?_
    refine rx_getI C (k := 0) (ri_sh hr0) fc_X7 (by decide) rfl lk_X7_9 dX7_place_21 ?_
    refine rx_isub C dX7_place_24 ?_
    exact RX.loc (w_X7_place_25 C r0 hr0 (w2 - (gI σ r0 0)) σ) [] rfl
  · refine rx_iload_n C 0 dX7_place_15 rfl rfl ?_
    refine rx_goto C (tgt := 25) dX7_place_16 (by decide) ?_
    exact RX.loc (w_X7_place_25 C r0 hr0 w2 σ) [] rfl
theorem m_X7_place (l : Launch) {α : Nat → Nat} {D : va_G} {cA : Nat → ClassId} (hin : inj shX.length α) (r0 : Nat) (hr0 : isRing r0) (x1 : Int32) (σ : St) : CT shX l yX7_place cX7_place 3 (some .int) 0 0 emI α D cA [.ref (α r0), .int x1] σ (f_X7_place r0 x1 σ) := ct_of rfl (Nat.le_of_ble_eq_true rfl) hin (fun z _ C => w_X7_place_e C r0 hr0 x1 σ)
set_option maxRecDepth 100000 in
set_option maxHeartbeats 4000000 in
theorem w_X7_grow_33 {α : Nat → Nat} {D : va_G} {cA : Nat → ClassId} {z : Cz} (C : CX shX α D cA z RX7 cX7_grow 1 none 1 22) (r0 : Nat) (hr0 : isRing r0) (σ : St) : RX emV shX α D cA z 1 σ 33 [] [] (f_X7_grow_33 r0 σ) := by
  unfold f_X7_grow_33
  exact rx_vret C dX7_grow_33
set_option maxRecDepth 100000 in
set_option maxHeartbeats 4000000 in
theorem w_X7_grow_e {α : Nat → Nat} {D : va_G} {cA : Nat → ClassId} {z : Cz} (C : CX shX α D cA z RX7 cX7_grow 1 none 1 22) (r0 : Nat) (hr0 : isRing r0) (σ : St) : RX emV shX α D cA z 1 σ 0 [(0, .ref (α r0))] [] (f_X7_grow r0 σ) := by
  unfold f_X7_grow
  refine rx_aload_n C 0 dX7_grow_0 rfl rfl ?_
  refine rx_getI C (k := 4) (ri_sh hr0) fc_X7 (by decide) rfl lk_X7_25 dX7_grow_1 ?_
  refine rx_aload_n C 0 dX7_grow_4 rfl rfl ?_
  refine rx_getI C (k := 0) (ri_sh hr0) fc_X7 (by decide) rfl lk_X7_9 dX7_grow_5 ?_
  refine rx_icmp_ge C (tgt := 24) dX7_grow_8 (by decide) (fun _ => ?_) (fun _ => ?_)
  · refine rx_aload_n C 0 dX7_grow_24 rfl rfl ?_
    refine rx_aload_n C 0 dX7_grow_25 rfl rfl ?_
    refine rx_iconst C dX7_grow_26 ic_1 ?_
    refine rx_callVi C [.int (1 : Int32)] [.ref (α r0)] (m_X7_place z.l C.inj r0 hr0 (1 : Int32) σ) mv_X7_place lk_X7_28 (ri_sh hr0) rfl rfl rfl (Nat.le_of_ble_eq_true rfl) ⟨Nat.le_of_ble_eq_true rfl, Nat.le_of_ble_eq_true rfl⟩ dX7_grow_27 (fun q4 => ?_)
    refine rx_putI C (k := 3) (ri_sh hr0) fc_X7 (by decide) rfl lk_X7_22 rfl ⟨rfl, rfl⟩ dX7_grow_30 ?_
    refine rx_lts (fun σ5 => ?_)
    exact RX.loc (w_X7_grow_33 C r0 hr0 σ5) [] rfl
  · refine rx_aload_n C 0 dX7_grow_11 rfl rfl ?_
    refine rx_dup C dX7_grow_12 rfl ?_
    refine rx_getI C (k := 4) (ri_sh hr0) fc_X7 (by decide) rfl lk_X7_25 dX7_grow_13 ?_
    refine rx_iconst C dX7_grow_16 ic_1 ?_
    refine rx_iadd C dX7_grow_17 ?_
    refine rx_putI C (k := 4) (ri_sh hr0) fc_X7 (by decide) rfl lk_X7_25 rfl ⟨rfl, rfl⟩ dX7_grow_18 ?_
    refine rx_lts (fun σ6 => ?_)
    refine rx_goto C (tgt := 33) dX7_grow_21 (by decide) ?_
    exact RX.loc (w_X7_grow_33 C r0 hr0 σ6) [] rfl
theorem m_X7_grow (l : Launch) {α : Nat → Nat} {D : va_G} {cA : Nat → ClassId} (hin : inj shX.length α) (r0 : Nat) (hr0 : isRing r0) (σ : St) : CT shX l yX7_grow cX7_grow 1 none 1 22 emV α D cA [.ref (α r0)] σ (f_X7_grow r0 σ) := ct_of rfl (Nat.le_of_ble_eq_true rfl) hin (fun z _ C => w_X7_grow_e C r0 hr0 σ)
set_option maxRecDepth 100000 in
set_option maxHeartbeats 4000000 in
theorem w_X7_set_42 {α : Nat → Nat} {D : va_G} {cA : Nat → ClassId} {z : Cz} (C : CX shX α D cA z RX7 cX7_set 3 none 1 22) (r0 : Nat) (hr0 : isRing r0) (σ : St) : RX emV shX α D cA z 3 σ 42 [] [] (f_X7_set_42 r0 σ) := by
  unfold f_X7_set_42
  exact rx_vret C dX7_set_42
set_option maxRecDepth 100000 in
set_option maxHeartbeats 4000000 in
theorem w_X7_set_e {α : Nat → Nat} {D : va_G} {cA : Nat → ClassId} {z : Cz} (C : CX shX α D cA z RX7 cX7_set 3 none 1 22) (r0 : Nat) (hr0 : isRing r0) (x1 : Int32) (x2 : Int32) (σ : St) : RX emV shX α D cA z 3 σ 0 [(0, .ref (α r0)), (1, .int x1), (2, .int x2)] [] (f_X7_set r0 x1 x2 σ) := by
  unfold f_X7_set
  refine rx_aload_n C 0 dX7_set_0 rfl rfl ?_
  refine rx_getI C (k := 4) (ri_sh hr0) fc_X7 (by decide) rfl lk_X7_25 dX7_set_1 ?_
  refine rx_if_le C (tgt := 42) dX7_set_4 (by decide) (fun _ => ?_) (fun _ => ?_)
  · exact RX.loc (w_X7_set_42 C r0 hr0 σ) [] rfl
  · refine rx_iload_n C 1 dX7_set_7 rfl rfl ?_
    refine rx_if_lt C (tgt := 42) dX7_set_8 (by decide) (fun _ => ?_) (fun _ => ?_)
    · exact RX.loc (w_X7_set_42 C r0 hr0 σ) [] rfl
    · refine rx_iload_n C 1 dX7_set_11 rfl rfl ?_
      refine rx_aload_n C 0 dX7_set_12 rfl rfl ?_
      refine rx_getI C (k := 1) (ri_sh hr0) fc_X7 (by decide) rfl lk_X7_15 dX7_set_13 ?_
      refine rx_icmp_ge C (tgt := 42) dX7_set_16 (by decide) (fun _ => ?_) (fun _ => ?_)
      · exact RX.loc (w_X7_set_42 C r0 hr0 σ) [] rfl
      · refine rx_aload_n C 0 dX7_set_19 rfl rfl ?_
        refine rx_getC C (k := 2) (ri_sh hr0) fc_X7 (by decide) (r0 + 1) rfl lk_X7_18 dX7_set_20 ?_
        refine rx_aload_n C 0 dX7_set_23 rfl rfl ?_
        refine rx_aload_n C 0 dX7_set_24 rfl rfl ?_
        refine rx_getI C (k := 4) (ri_sh hr0) fc_X7 (by decide) rfl lk_X7_25 dX7_set_25 ?_
        refine rx_iconst C dX7_set_28 ic_1 ?_
        refine rx_isub C dX7_set_29 ?_
        refine rx_callVi C [.int ((gI σ r0 4) - (1 : Int32))] [.ref (α (r0 + 1))] (m_X7_place z.l C.inj r0 hr0 ((gI σ r0 4) - (1 : Int32)) σ) mv_X7_place lk_X7_28 (ri_sh hr0) rfl rfl rfl (Nat.le_of_ble_eq_true rfl) ⟨Nat.le_of_ble_eq_true rfl, Nat.le_of_ble_eq_true rfl⟩ dX7_set_30 (fun q3 => ?_)
        refine rx_aload_n C 0 dX7_set_33 rfl rfl ?_
        refine rx_getI C (k := 1) (ri_sh hr0) fc_X7 (by decide) rfl lk_X7_15 dX7_set_34 ?_
        refine rx_imul C dX7_set_37 ?_
        refine rx_iload_n C 1 dX7_set_38 rfl rfl ?_
        refine rx_iadd C dX7_set_39 ?_
        refine rx_iload_n C 2 dX7_set_40 rfl rfl ?_
        refine rx_iast C (n := (lnX (r0 + 1))) (ri_1 hr0) dX7_set_41 (fun _ => ?_)
        refine rx_lts (fun σ4 => ?_)
        exact RX.loc (w_X7_set_42 C r0 hr0 σ4) [] rfl
theorem m_X7_set (l : Launch) {α : Nat → Nat} {D : va_G} {cA : Nat → ClassId} (hin : inj shX.length α) (r0 : Nat) (hr0 : isRing r0) (x1 : Int32) (x2 : Int32) (σ : St) : CT shX l yX7_set cX7_set 3 none 1 22 emV α D cA [.ref (α r0), .int x1, .int x2] σ (f_X7_set r0 x1 x2 σ) := ct_of rfl (Nat.le_of_ble_eq_true rfl) hin (fun z _ C => w_X7_set_e C r0 hr0 x1 x2 σ)
set_option maxRecDepth 100000 in
set_option maxHeartbeats 4000000 in
theorem w_X1_note_e {α : Nat → Nat} {D : va_G} {cA : Nat → ClassId} {z : Cz} (C : CX shX α D cA z RX1 cX1_note 5 none 2 44) (x1 : Int32) (x2 : Int32) (x3 : Int32) (x4 : Int32) (σ : St) : RX emV shX α D cA z 5 σ 0 [(0, .ref (α 18)), (1, .int x1), (2, .int x2), (3, .int x3), (4, .int x4)] [] (f_X1_note x1 x2 x3 x4 σ) := by
  unfold f_X1_note
  refine rx_aload_n C 0 dX1_note_0 rfl rfl ?_
  refine rx_getC C (k := 2) sx_18 fc_X1 (by decide) 19 rfl lk_X1_24 dX1_note_1 ?_
  refine rx_callVv C [] [] (m_X7_grow z.l C.inj 19 rn_19 σ) mv_X7_grow lk_X1_46 sx_19 rfl rfl rfl (Nat.le_of_ble_eq_true rfl) ⟨Nat.le_of_ble_eq_true rfl, Nat.le_of_ble_eq_true rfl⟩ dX1_note_4 (fun q7 => ?_)
  refine rx_aload_n C 0 dX1_note_7 rfl rfl ?_
  refine rx_getC C (k := 2) sx_18 fc_X1 (by decide) 19 rfl lk_X1_24 dX1_note_8 ?_
  refine rx_iconst C dX1_note_11 ic_0 ?_
  refine rx_aload_n C 0 dX1_note_12 rfl rfl ?_
  refine rx_getC C (k := 0) sx_18 fc_X1 (by decide) 6 rfl lk_X1_9 dX1_note_13 ?_
  refine rx_getI C (k := 1) sx_6 fc_X2 (by decide) rfl lk_X1_49 dX1_note_16 ?_
  refine rx_callVv C [.int (0 : Int32), .int (gI q7.2 6 1)] [] (m_X7_set z.l C.inj 19 rn_19 (0 : Int32) (gI q7.2 6 1) q7.2) mv_X7_set lk_X1_54 sx_19 rfl rfl rfl (Nat.le_of_ble_eq_true rfl) ⟨Nat.le_of_ble_eq_true rfl, Nat.le_of_ble_eq_true rfl⟩ dX1_note_19 (fun q8 => ?_)
  refine rx_aload_n C 0 dX1_note_22 rfl rfl ?_
  refine rx_getC C (k := 2) sx_18 fc_X1 (by decide) 19 rfl lk_X1_24 dX1_note_23 ?_
  refine rx_iconst C dX1_note_26 ic_1 ?_
  refine rx_iload_n C 1 dX1_note_27 rfl rfl ?_
  refine rx_callVv C [.int (1 : Int32), .int x1] [] (m_X7_set z.l C.inj 19 rn_19 (1 : Int32) x1 q8.2) mv_X7_set lk_X1_54 sx_19 rfl rfl rfl (Nat.le_of_ble_eq_true rfl) ⟨Nat.le_of_ble_eq_true rfl, Nat.le_of_ble_eq_true rfl⟩ dX1_note_28 (fun q9 => ?_)
  refine rx_aload_n C 0 dX1_note_31 rfl rfl ?_
  refine rx_getC C (k := 2) sx_18 fc_X1 (by decide) 19 rfl lk_X1_24 dX1_note_32 ?_
  refine rx_iconst C dX1_note_35 ic_2 ?_
  refine rx_iload_n C 2 dX1_note_36 rfl rfl ?_
  refine rx_callVv C [.int (2 : Int32), .int x2] [] (m_X7_set z.l C.inj 19 rn_19 (2 : Int32) x2 q9.2) mv_X7_set lk_X1_54 sx_19 rfl rfl rfl (Nat.le_of_ble_eq_true rfl) ⟨Nat.le_of_ble_eq_true rfl, Nat.le_of_ble_eq_true rfl⟩ dX1_note_37 (fun q10 => ?_)
  refine rx_aload_n C 0 dX1_note_40 rfl rfl ?_
  refine rx_getC C (k := 2) sx_18 fc_X1 (by decide) 19 rfl lk_X1_24 dX1_note_41 ?_
  refine rx_iconst C dX1_note_44 ic_3 ?_
  refine rx_iload_n C 3 dX1_note_45 rfl rfl ?_
  refine rx_callVv C [.int (3 : Int32), .int x3] [] (m_X7_set z.l C.inj 19 rn_19 (3 : Int32) x3 q10.2) mv_X7_set lk_X1_54 sx_19 rfl rfl rfl (Nat.le_of_ble_eq_true rfl) ⟨Nat.le_of_ble_eq_true rfl, Nat.le_of_ble_eq_true rfl⟩ dX1_note_46 (fun q11 => ?_)
  refine rx_aload_n C 0 dX1_note_49 rfl rfl ?_
  refine rx_getC C (k := 2) sx_18 fc_X1 (by decide) 19 rfl lk_X1_24 dX1_note_50 ?_
  refine rx_iconst C dX1_note_53 ic_4 ?_
  refine rx_iload C 4 dX1_note_54 rfl ?_
  refine rx_callVv C [.int (4 : Int32), .int x4] [] (m_X7_set z.l C.inj 19 rn_19 (4 : Int32) x4 q11.2) mv_X7_set lk_X1_54 sx_19 rfl rfl rfl (Nat.le_of_ble_eq_true rfl) ⟨Nat.le_of_ble_eq_true rfl, Nat.le_of_ble_eq_true rfl⟩ dX1_note_56 (fun q12 => ?_)
  exact rx_vret C dX1_note_59
theorem m_X1_note (l : Launch) {α : Nat → Nat} {D : va_G} {cA : Nat → ClassId} (hin : inj shX.length α) (x1 : Int32) (x2 : Int32) (x3 : Int32) (x4 : Int32) (σ : St) : CT shX l yX1_note cX1_note 5 none 2 44 emV α D cA [.ref (α 18), .int x1, .int x2, .int x3, .int x4] σ (f_X1_note x1 x2 x3 x4 σ) := ct_of rfl (Nat.le_of_ble_eq_true rfl) hin (fun z _ C => w_X1_note_e C x1 x2 x3 x4 σ)
set_option maxRecDepth 100000 in
set_option maxHeartbeats 4000000 in
theorem w_X8_holds_17 {α : Nat → Nat} {D : va_G} {cA : Nat → ClassId} {z : Cz} (C : CX shX α D cA z RX8 cX8_holds 2 (some .boolean) 0 0) (r0 : Nat) (hr0 : isRoll r0) (s0 : Int32) (σ : St) : RX emI shX α D cA z 2 σ 17 [] [.int s0] (f_X8_holds_17 r0 s0 σ) := by
  unfold f_X8_holds_17
  exact rx_zret C dX8_holds_17
set_option maxRecDepth 100000 in
set_option maxHeartbeats 4000000 in
theorem w_X8_holds_16 {α : Nat → Nat} {D : va_G} {cA : Nat → ClassId} {z : Cz} (C : CX shX α D cA z RX8 cX8_holds 2 (some .boolean) 0 0) (r0 : Nat) (hr0 : isRoll r0) (σ : St) : RX emI shX α D cA z 2 σ 16 [] [] (f_X8_holds_16 r0 σ) := by
  unfold f_X8_holds_16
  refine rx_iconst C dX8_holds_16 ic_0 ?_
  exact RX.loc (w_X8_holds_17 C r0 hr0 (0 : Int32) σ) [] rfl
set_option maxRecDepth 100000 in
set_option maxHeartbeats 4000000 in
theorem w_X8_holds_e {α : Nat → Nat} {D : va_G} {cA : Nat → ClassId} {z : Cz} (C : CX shX α D cA z RX8 cX8_holds 2 (some .boolean) 0 0) (r0 : Nat) (hr0 : isRoll r0) (x1 : Int32) (σ : St) : RX emI shX α D cA z 2 σ 0 [(0, .ref (α r0)), (1, .int x1)] [] (f_X8_holds r0 x1 σ) := by
  unfold f_X8_holds
  refine rx_iload_n C 1 dX8_holds_0 rfl rfl ?_
  refine rx_if_lt C (tgt := 16) dX8_holds_1 (by decide) (fun _ => ?_) (fun _ => ?_)
  · exact RX.loc (w_X8_holds_16 C r0 hr0 σ) [] rfl
  · refine rx_iload_n C 1 dX8_holds_4 rfl rfl ?_
    refine rx_aload_n C 0 dX8_holds_5 rfl rfl ?_
    refine rx_getI C (k := 4) (ro_sh hr0) fc_X8 (by decide) rfl lk_X8_25 dX8_holds_6 ?_
    refine rx_icmp_ge C (tgt := 16) dX8_holds_9 (by decide) (fun _ => ?_) (fun _ => ?_)
    · exact RX.loc (w_X8_holds_16 C r0 hr0 σ) [] rfl
    · refine rx_iconst C dX8_holds_12 ic_1 ?_
      refine rx_goto C (tgt := 17) dX8_holds_13 (by decide) ?_
      exact RX.loc (w_X8_holds_17 C r0 hr0 (1 : Int32) σ) [] rfl
theorem m_X8_holds (l : Launch) {α : Nat → Nat} {D : va_G} {cA : Nat → ClassId} (hin : inj shX.length α) (r0 : Nat) (hr0 : isRoll r0) (x1 : Int32) (σ : St) : CT shX l yX8_holds cX8_holds 2 (some .boolean) 0 0 emI α D cA [.ref (α r0), .int x1] σ (f_X8_holds r0 x1 σ) := ct_of rfl (Nat.le_of_ble_eq_true rfl) hin (fun z _ C => w_X8_holds_e C r0 hr0 x1 σ)
set_option maxRecDepth 100000 in
set_option maxHeartbeats 4000000 in
theorem w_X2_bears_46 {α : Nat → Nat} {D : va_G} {cA : Nat → ClassId} {z : Cz} (C : CX shX α D cA z RX2 cX2_bears 3 (some .boolean) 1 21) (s0 : Int32) (σ : St) : RX emI shX α D cA z 3 σ 46 [] [.int s0] (f_X2_bears_46 s0 σ) := by
  unfold f_X2_bears_46
  exact rx_zret C dX2_bears_46
set_option maxRecDepth 100000 in
set_option maxHeartbeats 4000000 in
theorem w_X2_bears_45 {α : Nat → Nat} {D : va_G} {cA : Nat → ClassId} {z : Cz} (C : CX shX α D cA z RX2 cX2_bears 3 (some .boolean) 1 21) (σ : St) : RX emI shX α D cA z 3 σ 45 [] [] (f_X2_bears_45 σ) := by
  unfold f_X2_bears_45
  refine rx_iconst C dX2_bears_45 ic_0 ?_
  exact RX.loc (w_X2_bears_46 C (0 : Int32) σ) [] rfl
set_option maxRecDepth 100000 in
set_option maxHeartbeats 4000000 in
theorem w_X2_bears_e {α : Nat → Nat} {D : va_G} {cA : Nat → ClassId} {z : Cz} (C : CX shX α D cA z RX2 cX2_bears 3 (some .boolean) 1 21) (x1 : Int32) (x2 : Int32) (σ : St) : RX emI shX α D cA z 3 σ 0 [(0, .ref (α 6)), (1, .int x1), (2, .int x2)] [] (f_X2_bears x1 x2 σ) := by
  unfold f_X2_bears
  refine rx_aload_n C 0 dX2_bears_0 rfl rfl ?_
  refine rx_getR C (k := 0) sx_6 fc_X2 (by decide) rfl lk_X2_9 dX2_bears_1 ?_
  refine rx_ltr (fun g5 => ?_)
  refine rx_if (fun hg5 => ?_) (fun _ => rx_none)
  refine rx_getC C (k := 0) (ld_sh (landB_is hg5)) fc_X4 (by decide) (g5 + 1) rfl lk_X2_87 dX2_bears_4 ?_
  refine rx_iload_n C 1 dX2_bears_7 rfl rfl ?_
  refine rx_callVi C [.int x1] [] (m_X8_holds z.l C.inj (g5 + 1) (ld_1 (landB_is hg5)) x1 σ) mv_X8_holds lk_X2_91 (ro_sh (ld_1 (landB_is hg5))) rfl rfl rfl (Nat.le_of_ble_eq_true rfl) ⟨Nat.le_of_ble_eq_true rfl, Nat.le_of_ble_eq_true rfl⟩ dX2_bears_8 (fun q6 => ?_)
  refine rx_if_eq C (tgt := 45) dX2_bears_11 (by decide) (fun _ => ?_) (fun _ => ?_)
  · exact RX.loc (w_X2_bears_45 C q6.2) [] rfl
  · refine rx_aload_n C 0 dX2_bears_14 rfl rfl ?_
    refine rx_getR C (k := 0) sx_6 fc_X2 (by decide) rfl lk_X2_9 dX2_bears_15 ?_
    refine rx_ltr (fun g7 => ?_)
    refine rx_if (fun hg7 => ?_) (fun _ => rx_none)
    refine rx_getC C (k := 1) (ld_sh (landB_is hg7)) fc_X4 (by decide) (g7 + 4) rfl lk_X2_97 dX2_bears_18 ?_
    refine rx_iload_n C 2 dX2_bears_21 rfl rfl ?_
    refine rx_callVi C [.int x2] [] (m_X8_holds z.l C.inj (g7 + 4) (ld_4 (landB_is hg7)) x2 q6.2) mv_X8_holds lk_X2_91 (ro_sh (ld_4 (landB_is hg7))) rfl rfl rfl (Nat.le_of_ble_eq_true rfl) ⟨Nat.le_of_ble_eq_true rfl, Nat.le_of_ble_eq_true rfl⟩ dX2_bears_22 (fun q8 => ?_)
    refine rx_if_eq C (tgt := 45) dX2_bears_25 (by decide) (fun _ => ?_) (fun _ => ?_)
    · exact RX.loc (w_X2_bears_45 C q8.2) [] rfl
    · refine rx_aload_n C 0 dX2_bears_28 rfl rfl ?_
      refine rx_getC C (k := 4) sx_6 fc_X2 (by decide) 7 rfl lk_X2_25 dX2_bears_29 ?_
      refine rx_iload_n C 1 dX2_bears_32 rfl rfl ?_
      refine rx_iald C (n := 8) sx_7 dX2_bears_33 (fun _ => ?_)
      refine rx_iload_n C 2 dX2_bears_34 rfl rfl ?_
      refine rx_ishr C dX2_bears_35 ?_
      refine rx_iconst C dX2_bears_36 ic_1 ?_
      refine rx_iand C dX2_bears_37 ?_
      refine rx_if_eq C (tgt := 45) dX2_bears_38 (by decide) (fun _ => ?_) (fun _ => ?_)
      · exact RX.loc (w_X2_bears_45 C q8.2) [] rfl
      · refine rx_iconst C dX2_bears_41 ic_1 ?_
        refine rx_goto C (tgt := 46) dX2_bears_42 (by decide) ?_
        exact RX.loc (w_X2_bears_46 C (1 : Int32) q8.2) [] rfl
theorem m_X2_bears (l : Launch) {α : Nat → Nat} {D : va_G} {cA : Nat → ClassId} (hin : inj shX.length α) (x1 : Int32) (x2 : Int32) (σ : St) : CT shX l yX2_bears cX2_bears 3 (some .boolean) 1 21 emI α D cA [.ref (α 6), .int x1, .int x2] σ (f_X2_bears x1 x2 σ) := ct_of rfl (Nat.le_of_ble_eq_true rfl) hin (fun z _ C => w_X2_bears_e C x1 x2 σ)
set_option maxRecDepth 100000 in
set_option maxHeartbeats 4000000 in
theorem w_X2_lacks_42 {α : Nat → Nat} {D : va_G} {cA : Nat → ClassId} {z : Cz} (C : CX shX α D cA z RX2 cX2_lacks 3 (some .boolean) 2 43) (s0 : Int32) (σ : St) : RX emI shX α D cA z 3 σ 42 [] [.int s0] (f_X2_lacks_42 s0 σ) := by
  unfold f_X2_lacks_42
  exact rx_zret C dX2_lacks_42
set_option maxRecDepth 100000 in
set_option maxHeartbeats 4000000 in
theorem w_X2_lacks_41 {α : Nat → Nat} {D : va_G} {cA : Nat → ClassId} {z : Cz} (C : CX shX α D cA z RX2 cX2_lacks 3 (some .boolean) 2 43) (σ : St) : RX emI shX α D cA z 3 σ 41 [] [] (f_X2_lacks_41 σ) := by
  unfold f_X2_lacks_41
  refine rx_iconst C dX2_lacks_41 ic_0 ?_
  exact RX.loc (w_X2_lacks_42 C (0 : Int32) σ) [] rfl
set_option maxRecDepth 100000 in
set_option maxHeartbeats 4000000 in
theorem w_X2_lacks_e {α : Nat → Nat} {D : va_G} {cA : Nat → ClassId} {z : Cz} (C : CX shX α D cA z RX2 cX2_lacks 3 (some .boolean) 2 43) (x1 : Int32) (x2 : Int32) (σ : St) : RX emI shX α D cA z 3 σ 0 [(0, .ref (α 6)), (1, .int x1), (2, .int x2)] [] (f_X2_lacks x1 x2 σ) := by
  unfold f_X2_lacks
  refine rx_aload_n C 0 dX2_lacks_0 rfl rfl ?_
  refine rx_getR C (k := 0) sx_6 fc_X2 (by decide) rfl lk_X2_9 dX2_lacks_1 ?_
  refine rx_ltr (fun g6 => ?_)
  refine rx_if (fun hg6 => ?_) (fun _ => rx_none)
  refine rx_getC C (k := 0) (ld_sh (landB_is hg6)) fc_X4 (by decide) (g6 + 1) rfl lk_X2_87 dX2_lacks_4 ?_
  refine rx_iload_n C 1 dX2_lacks_7 rfl rfl ?_
  refine rx_callVi C [.int x1] [] (m_X8_holds z.l C.inj (g6 + 1) (ld_1 (landB_is hg6)) x1 σ) mv_X8_holds lk_X2_91 (ro_sh (ld_1 (landB_is hg6))) rfl rfl rfl (Nat.le_of_ble_eq_true rfl) ⟨Nat.le_of_ble_eq_true rfl, Nat.le_of_ble_eq_true rfl⟩ dX2_lacks_8 (fun q7 => ?_)
  refine rx_if_eq C (tgt := 41) dX2_lacks_11 (by decide) (fun _ => ?_) (fun _ => ?_)
  · exact RX.loc (w_X2_lacks_41 C q7.2) [] rfl
  · refine rx_aload_n C 0 dX2_lacks_14 rfl rfl ?_
    refine rx_getR C (k := 0) sx_6 fc_X2 (by decide) rfl lk_X2_9 dX2_lacks_15 ?_
    refine rx_ltr (fun g8 => ?_)
    refine rx_if (fun hg8 => ?_) (fun _ => rx_none)
    refine rx_getC C (k := 1) (ld_sh (landB_is hg8)) fc_X4 (by decide) (g8 + 4) rfl lk_X2_97 dX2_lacks_18 ?_
    refine rx_iload_n C 2 dX2_lacks_21 rfl rfl ?_
    refine rx_callVi C [.int x2] [] (m_X8_holds z.l C.inj (g8 + 4) (ld_4 (landB_is hg8)) x2 q7.2) mv_X8_holds lk_X2_91 (ro_sh (ld_4 (landB_is hg8))) rfl rfl rfl (Nat.le_of_ble_eq_true rfl) ⟨Nat.le_of_ble_eq_true rfl, Nat.le_of_ble_eq_true rfl⟩ dX2_lacks_22 (fun q9 => ?_)
    refine rx_if_eq C (tgt := 41) dX2_lacks_25 (by decide) (fun _ => ?_) (fun _ => ?_)
    · exact RX.loc (w_X2_lacks_41 C q9.2) [] rfl
    · refine rx_aload_n C 0 dX2_lacks_28 rfl rfl ?_
      refine rx_iload_n C 1 dX2_lacks_29 rfl rfl ?_
      refine rx_iload_n C 2 dX2_lacks_30 rfl rfl ?_
      refine rx_callVi C [.int x1, .int x2] [] (m_X2_bears z.l C.inj x1 x2 q9.2) mv_X2_bears lk_X2_99 sx_6 rfl rfl rfl (Nat.le_of_ble_eq_true rfl) ⟨Nat.le_of_ble_eq_true rfl, Nat.le_of_ble_eq_true rfl⟩ dX2_lacks_31 (fun q10 => ?_)
      refine rx_if_ne C (tgt := 41) dX2_lacks_34 (by decide) (fun _ => ?_) (fun _ => ?_)
      · refine rx_iconst C dX2_lacks_37 ic_1 ?_
        refine rx_goto C (tgt := 42) dX2_lacks_38 (by decide) ?_
        exact RX.loc (w_X2_lacks_42 C (1 : Int32) q10.2) [] rfl
      · exact RX.loc (w_X2_lacks_41 C q10.2) [] rfl
theorem m_X2_lacks (l : Launch) {α : Nat → Nat} {D : va_G} {cA : Nat → ClassId} (hin : inj shX.length α) (x1 : Int32) (x2 : Int32) (σ : St) : CT shX l yX2_lacks cX2_lacks 3 (some .boolean) 2 43 emI α D cA [.ref (α 6), .int x1, .int x2] σ (f_X2_lacks x1 x2 σ) := ct_of rfl (Nat.le_of_ble_eq_true rfl) hin (fun z _ C => w_X2_lacks_e C x1 x2 σ)
set_option maxRecDepth 100000 in
set_option maxHeartbeats 4000000 in
theorem w_X2_come_36 {α : Nat → Nat} {D : va_G} {cA : Nat → ClassId} {z : Cz} (C : CX shX α D cA z RX2 cX2_come 3 none 3 65) (σ : St) : RX emV shX α D cA z 3 σ 36 [] [] (f_X2_come_36 σ) := by
  unfold f_X2_come_36
  exact rx_vret C dX2_come_36
set_option maxRecDepth 100000 in
set_option maxHeartbeats 4000000 in
theorem w_X2_come_e {α : Nat → Nat} {D : va_G} {cA : Nat → ClassId} {z : Cz} (C : CX shX α D cA z RX2 cX2_come 3 none 3 65) (x1 : Int32) (x2 : Int32) (σ : St) : RX emV shX α D cA z 3 σ 0 [(0, .ref (α 6)), (1, .int x1), (2, .int x2)] [] (f_X2_come x1 x2 σ) := by
  unfold f_X2_come
  refine rx_aload_n C 0 dX2_come_0 rfl rfl ?_
  refine rx_iload_n C 1 dX2_come_1 rfl rfl ?_
  refine rx_iload_n C 2 dX2_come_2 rfl rfl ?_
  refine rx_callVi C [.int x1, .int x2] [] (m_X2_lacks z.l C.inj x1 x2 σ) mv_X2_lacks lk_X2_106 sx_6 rfl rfl rfl (Nat.le_of_ble_eq_true rfl) ⟨Nat.le_of_ble_eq_true rfl, Nat.le_of_ble_eq_true rfl⟩ dX2_come_3 (fun q4 => ?_)
  refine rx_if_eq C (tgt := 36) dX2_come_6 (by decide) (fun _ => ?_) (fun _ => ?_)
  · exact RX.loc (w_X2_come_36 C q4.2) [] rfl
  · refine rx_aload_n C 0 dX2_come_9 rfl rfl ?_
    refine rx_getC C (k := 4) sx_6 fc_X2 (by decide) 7 rfl lk_X2_25 dX2_come_10 ?_
    refine rx_iload_n C 1 dX2_come_13 rfl rfl ?_
    refine rx_dup2 C dX2_come_14 rfl rfl ?_
    refine rx_iald C (n := 8) sx_7 dX2_come_15 (fun _ => ?_)
    refine rx_iconst C dX2_come_16 ic_1 ?_
    refine rx_iload_n C 2 dX2_come_17 rfl rfl ?_
    refine rx_ishl C dX2_come_18 ?_
    refine rx_ior C dX2_come_19 ?_
    refine rx_iast C (n := 8) sx_7 dX2_come_20 (fun _ => ?_)
    refine rx_lts (fun σ5 => ?_)
    refine rx_aload_n C 0 dX2_come_21 rfl rfl ?_
    refine rx_getC C (k := 7) sx_6 fc_X2 (by decide) 10 rfl lk_X2_35 dX2_come_22 ?_
    refine rx_iload_n C 1 dX2_come_25 rfl rfl ?_
    refine rx_bipush C dX2_come_26 bp_12 ?_
    refine rx_imul C dX2_come_28 ?_
    refine rx_iload_n C 2 dX2_come_29 rfl rfl ?_
    refine rx_iadd C dX2_come_30 ?_
    refine rx_aload_n C 0 dX2_come_31 rfl rfl ?_
    refine rx_getI C (k := 1) sx_6 fc_X2 (by decide) rfl lk_X2_15 dX2_come_32 ?_
    refine rx_iast C (n := 96) sx_10 dX2_come_35 (fun _ => ?_)
    refine rx_lts (fun σ6 => ?_)
    exact RX.loc (w_X2_come_36 C σ6) [] rfl
theorem m_X2_come (l : Launch) {α : Nat → Nat} {D : va_G} {cA : Nat → ClassId} (hin : inj shX.length α) (x1 : Int32) (x2 : Int32) (σ : St) : CT shX l yX2_come cX2_come 3 none 3 65 emV α D cA [.ref (α 6), .int x1, .int x2] σ (f_X2_come x1 x2 σ) := ct_of rfl (Nat.le_of_ble_eq_true rfl) hin (fun z _ C => w_X2_come_e C x1 x2 σ)
set_option maxRecDepth 100000 in
set_option maxHeartbeats 4000000 in
theorem w_X2_count_35 {α : Nat → Nat} {D : va_G} {cA : Nat → ClassId} {z : Cz} (C : CX shX α D cA z RX2 cX2_count 3 (some .int) 0 0) (s0 : Int32) (σ : St) : RX emI shX α D cA z 3 σ 35 [] [.int s0] (f_X2_count_35 s0 σ) := by
  unfold f_X2_count_35
  exact rx_iret C dX2_count_35
set_option maxRecDepth 100000 in
set_option maxHeartbeats 4000000 in
theorem w_X2_count_34 {α : Nat → Nat} {D : va_G} {cA : Nat → ClassId} {z : Cz} (C : CX shX α D cA z RX2 cX2_count 3 (some .int) 0 0) (σ : St) : RX emI shX α D cA z 3 σ 34 [] [] (f_X2_count_34 σ) := by
  unfold f_X2_count_34
  refine rx_iconst C dX2_count_34 ic_0 ?_
  exact RX.loc (w_X2_count_35 C (0 : Int32) σ) [] rfl
set_option maxRecDepth 100000 in
set_option maxHeartbeats 4000000 in
theorem w_X2_count_e {α : Nat → Nat} {D : va_G} {cA : Nat → ClassId} {z : Cz} (C : CX shX α D cA z RX2 cX2_count 3 (some .int) 0 0) (x1 : Int32) (x2 : Int32) (σ : St) : RX emI shX α D cA z 3 σ 0 [(0, .ref (α 6)), (1, .int x1), (2, .int x2)] [] (f_X2_count x1 x2 σ) := by
  unfold f_X2_count
  refine rx_iload_n C 1 dX2_count_0 rfl rfl ?_
  refine rx_if_lt C (tgt := 34) dX2_count_1 (by decide) (fun _ => ?_) (fun _ => ?_)
  · exact RX.loc (w_X2_count_34 C σ) [] rfl
  · refine rx_iload_n C 1 dX2_count_4 rfl rfl ?_
    refine rx_bipush C dX2_count_5 bp_8 ?_
    refine rx_icmp_gt C (tgt := 34) dX2_count_7 (by decide) (fun _ => ?_) (fun _ => ?_)
    · exact RX.loc (w_X2_count_34 C σ) [] rfl
    · refine rx_iload_n C 2 dX2_count_10 rfl rfl ?_
      refine rx_if_lt C (tgt := 34) dX2_count_11 (by decide) (fun _ => ?_) (fun _ => ?_)
      · exact RX.loc (w_X2_count_34 C σ) [] rfl
      · refine rx_iload_n C 2 dX2_count_14 rfl rfl ?_
        refine rx_bipush C dX2_count_15 bp_26 ?_
        refine rx_icmp_ge C (tgt := 34) dX2_count_17 (by decide) (fun _ => ?_) (fun _ => ?_)
        · exact RX.loc (w_X2_count_34 C σ) [] rfl
        · refine rx_aload_n C 0 dX2_count_20 rfl rfl ?_
          refine rx_getC C (k := 5) sx_6 fc_X2 (by decide) 8 rfl lk_X2_29 dX2_count_21 ?_
          refine rx_iload_n C 1 dX2_count_24 rfl rfl ?_
          refine rx_bipush C dX2_count_25 bp_26 ?_
          refine rx_imul C dX2_count_27 ?_
          refine rx_iload_n C 2 dX2_count_28 rfl rfl ?_
          refine rx_iadd C dX2_count_29 ?_
          refine rx_iald C (n := 234) sx_8 dX2_count_30 (fun _ => ?_)
          refine rx_goto C (tgt := 35) dX2_count_31 (by decide) ?_
          exact RX.loc (w_X2_count_35 C (gI σ 8 (ix ((x1 * (26 : Int32)) + x2))) σ) [] rfl
theorem m_X2_count (l : Launch) {α : Nat → Nat} {D : va_G} {cA : Nat → ClassId} (hin : inj shX.length α) (x1 : Int32) (x2 : Int32) (σ : St) : CT shX l yX2_count cX2_count 3 (some .int) 0 0 emI α D cA [.ref (α 6), .int x1, .int x2] σ (f_X2_count x1 x2 σ) := ct_of rfl (Nat.le_of_ble_eq_true rfl) hin (fun z _ C => w_X2_count_e C x1 x2 σ)
set_option maxRecDepth 100000 in
set_option maxHeartbeats 4000000 in
theorem w_J6_bitCount_0f7a4_e {α : Nat → Nat} {D : va_G} {cA : Nat → ClassId} {z : Cz} (C : CX shX α D cA z RJ6 cJ6_bitCount_0f7a4 1 (some .int) 0 0) (x0 : Int32) (σ : St) : RX emI shX α D cA z 1 σ 0 [(0, .int x0)] [] (f_J6_bitCount_0f7a4 x0 σ) := by
  unfold f_J6_bitCount_0f7a4
  refine rx_iload_n C 0 dJ6_bitCount_0f7a4_0 rfl rfl ?_
  refine rx_iload_n C 0 dJ6_bitCount_0f7a4_1 rfl rfl ?_
  refine rx_iconst C dJ6_bitCount_0f7a4_2 ic_1 ?_
  refine rx_iushr C dJ6_bitCount_0f7a4_3 ?_
  refine rx_ldc_w C lk_J6_265 dJ6_bitCount_0f7a4_4 ?_
  refine rx_iand C dJ6_bitCount_0f7a4_7 ?_
  refine rx_isub C dJ6_bitCount_0f7a4_8 ?_
  refine rx_lti (fun w6 => ?_)
  refine rx_istore_n C [(0, .int w6)] dJ6_bitCount_0f7a4_9 rfl (by decide) rfl ?_
  refine rx_iload_n C 0 dJ6_bitCount_0f7a4_10 rfl rfl ?_
  refine rx_ldc_w C lk_J6_266 dJ6_bitCount_0f7a4_11 ?_
  refine rx_iand C dJ6_bitCount_0f7a4_14 ?_
  refine rx_iload_n C 0 dJ6_bitCount_0f7a4_15 rfl rfl ?_
  refine rx_iconst C dJ6_bitCount_0f7a4_16 ic_2 ?_
  refine rx_iushr C dJ6_bitCount_0f7a4_17 ?_
  refine rx_ldc_w C lk_J6_266 dJ6_bitCount_0f7a4_18 ?_
  refine rx_iand C dJ6_bitCount_0f7a4_21 ?_
  refine rx_iadd C dJ6_bitCount_0f7a4_22 ?_
  refine rx_lti (fun w7 => ?_)
  refine rx_istore_n C [(0, .int w7)] dJ6_bitCount_0f7a4_23 rfl (by decide) rfl ?_
  refine rx_iload_n C 0 dJ6_bitCount_0f7a4_24 rfl rfl ?_
  refine rx_iload_n C 0 dJ6_bitCount_0f7a4_25 rfl rfl ?_
  refine rx_iconst C dJ6_bitCount_0f7a4_26 ic_4 ?_
  refine rx_iushr C dJ6_bitCount_0f7a4_27 ?_
  refine rx_iadd C dJ6_bitCount_0f7a4_28 ?_
  refine rx_ldc_w C lk_J6_267 dJ6_bitCount_0f7a4_29 ?_
  refine rx_iand C dJ6_bitCount_0f7a4_32 ?_
  refine rx_lti (fun w8 => ?_)
  refine rx_istore_n C [(0, .int w8)] dJ6_bitCount_0f7a4_33 rfl (by decide) rfl ?_
  refine rx_iload_n C 0 dJ6_bitCount_0f7a4_34 rfl rfl ?_
  refine rx_iload_n C 0 dJ6_bitCount_0f7a4_35 rfl rfl ?_
  refine rx_bipush C dJ6_bitCount_0f7a4_36 bp_8 ?_
  refine rx_iushr C dJ6_bitCount_0f7a4_38 ?_
  refine rx_iadd C dJ6_bitCount_0f7a4_39 ?_
  refine rx_lti (fun w9 => ?_)
  refine rx_istore_n C [(0, .int w9)] dJ6_bitCount_0f7a4_40 rfl (by decide) rfl ?_
  refine rx_iload_n C 0 dJ6_bitCount_0f7a4_41 rfl rfl ?_
  refine rx_iload_n C 0 dJ6_bitCount_0f7a4_42 rfl rfl ?_
  refine rx_bipush C dJ6_bitCount_0f7a4_43 bp_16 ?_
  refine rx_iushr C dJ6_bitCount_0f7a4_45 ?_
  refine rx_iadd C dJ6_bitCount_0f7a4_46 ?_
  refine rx_lti (fun w10 => ?_)
  refine rx_istore_n C [(0, .int w10)] dJ6_bitCount_0f7a4_47 rfl (by decide) rfl ?_
  refine rx_iload_n C 0 dJ6_bitCount_0f7a4_48 rfl rfl ?_
  refine rx_bipush C dJ6_bitCount_0f7a4_49 bp_63 ?_
  refine rx_iand C dJ6_bitCount_0f7a4_51 ?_
  exact rx_iret C dJ6_bitCount_0f7a4_52
theorem m_J6_bitCount_0f7a4 (l : Launch) {α : Nat → Nat} {D : va_G} {cA : Nat → ClassId} (hin : inj shX.length α) (x0 : Int32) (σ : St) : CT shX l yJ6_bitCount_0f7a4 cJ6_bitCount_0f7a4 1 (some .int) 0 0 emI α D cA [.int x0] σ (f_J6_bitCount_0f7a4 x0 σ) := ct_ofF (by decide +kernel) (Nat.le_of_ble_eq_true rfl) hin (fun z _ C => w_J6_bitCount_0f7a4_e C x0 σ)
set_option maxRecDepth 100000 in
set_option maxHeartbeats 4000000 in
theorem w_J9_min_7cf53_10 {α : Nat → Nat} {D : va_G} {cA : Nat → ClassId} {z : Cz} (C : CX shX α D cA z RJ9 cJ9_min_7cf53 2 (some .int) 0 0) (s0 : Int32) (σ : St) : RX emI shX α D cA z 2 σ 10 [] [.int s0] (f_J9_min_7cf53_10 s0 σ) := by
  unfold f_J9_min_7cf53_10
  exact rx_iret C dJ9_min_7cf53_10
set_option maxRecDepth 100000 in
set_option maxHeartbeats 4000000 in
theorem w_J9_min_7cf53_e {α : Nat → Nat} {D : va_G} {cA : Nat → ClassId} {z : Cz} (C : CX shX α D cA z RJ9 cJ9_min_7cf53 2 (some .int) 0 0) (x0 : Int32) (x1 : Int32) (σ : St) : RX emI shX α D cA z 2 σ 0 [(0, .int x0), (1, .int x1)] [] (f_J9_min_7cf53 x0 x1 σ) := by
  unfold f_J9_min_7cf53
  refine rx_iload_n C 0 dJ9_min_7cf53_0 rfl rfl ?_
  refine rx_iload_n C 1 dJ9_min_7cf53_1 rfl rfl ?_
  refine rx_icmp_gt C (tgt := 9) dJ9_min_7cf53_2 (by decide) (fun _ => ?_) (fun _ => ?_)
  · refine rx_iload_n C 1 dJ9_min_7cf53_9 rfl rfl ?_
    exact RX.loc (w_J9_min_7cf53_10 C x1 σ) [] rfl
  · refine rx_iload_n C 0 dJ9_min_7cf53_5 rfl rfl ?_
    refine rx_goto C (tgt := 10) dJ9_min_7cf53_6 (by decide) ?_
    exact RX.loc (w_J9_min_7cf53_10 C x0 σ) [] rfl
theorem m_J9_min_7cf53 (l : Launch) {α : Nat → Nat} {D : va_G} {cA : Nat → ClassId} (hin : inj shX.length α) (x0 : Int32) (x1 : Int32) (σ : St) : CT shX l yJ9_min_7cf53 cJ9_min_7cf53 2 (some .int) 0 0 emI α D cA [.int x0, .int x1] σ (f_J9_min_7cf53 x0 x1 σ) := ct_ofF (by decide +kernel) (Nat.le_of_ble_eq_true rfl) hin (fun z _ C => w_J9_min_7cf53_e C x0 x1 σ)
set_option maxRecDepth 100000 in
set_option maxHeartbeats 4000000 in
theorem w_X2_ageOf_e {α : Nat → Nat} {D : va_G} {cA : Nat → ClassId} {z : Cz} (C : CX shX α D cA z RX2 cX2_ageOf 2 (some .int) 1 22) (x1 : Int32) (σ : St) : RX emI shX α D cA z 2 σ 0 [(0, .ref (α 6)), (1, .int x1)] [] (f_X2_ageOf x1 σ) := by
  unfold f_X2_ageOf
  refine rx_iconst C dX2_ageOf_0 ic_0 ?_
  refine rx_aload_n C 0 dX2_ageOf_1 rfl rfl ?_
  refine rx_getI C (k := 1) sx_6 fc_X2 (by decide) rfl lk_X2_15 dX2_ageOf_2 ?_
  refine rx_aload_n C 0 dX2_ageOf_5 rfl rfl ?_
  refine rx_getR C (k := 0) sx_6 fc_X2 (by decide) rfl lk_X2_9 dX2_ageOf_6 ?_
  refine rx_ltr (fun g4 => ?_)
  refine rx_if (fun hg4 => ?_) (fun _ => rx_none)
  refine rx_getC C (k := 0) (ld_sh (landB_is hg4)) fc_X4 (by decide) (g4 + 1) rfl lk_X2_87 dX2_ageOf_9 ?_
  refine rx_iload_n C 1 dX2_ageOf_12 rfl rfl ?_
  refine rx_iconst C dX2_ageOf_13 ic_0 ?_
  refine rx_callVi C [.int x1, .int (0 : Int32)] [.int (gI σ 6 1), .int (0 : Int32)] (m_X8_get z.l C.inj (g4 + 1) (ld_1 (landB_is hg4)) x1 (0 : Int32) σ) mv_X8_get lk_X2_155 (ro_sh (ld_1 (landB_is hg4))) rfl rfl rfl (Nat.le_of_ble_eq_true rfl) ⟨Nat.le_of_ble_eq_true rfl, Nat.le_of_ble_eq_true rfl⟩ dX2_ageOf_14 (fun q5 => ?_)
  refine rx_isub C dX2_ageOf_17 ?_
  refine rx_callSi C [.int (0 : Int32), .int ((gI σ 6 1) - q5.1)] [] (m_J9_max_7cf53 z.l C.inj (0 : Int32) ((gI σ 6 1) - q5.1) q5.2) ms_J9_max_7cf53 lk_X2_156 rfl rfl (Nat.le_of_ble_eq_true rfl) ⟨Nat.le_of_ble_eq_true rfl, Nat.le_of_ble_eq_true rfl⟩ dX2_ageOf_18 (fun q6 => ?_)
  exact rx_iret C dX2_ageOf_21
theorem m_X2_ageOf (l : Launch) {α : Nat → Nat} {D : va_G} {cA : Nat → ClassId} (hin : inj shX.length α) (x1 : Int32) (σ : St) : CT shX l yX2_ageOf cX2_ageOf 2 (some .int) 1 22 emI α D cA [.ref (α 6), .int x1] σ (f_X2_ageOf x1 σ) := ct_of rfl (Nat.le_of_ble_eq_true rfl) hin (fun z _ C => w_X2_ageOf_e C x1 σ)
set_option maxRecDepth 100000 in
set_option maxHeartbeats 4000000 in
theorem w_X2_titlesOf_20 {α : Nat → Nat} {D : va_G} {cA : Nat → ClassId} {z : Cz} (C : CX shX α D cA z RX2 cX2_titlesOf 2 (some .int) 0 0) (s0 : Int32) (σ : St) : RX emI shX α D cA z 2 σ 20 [] [.int s0] (f_X2_titlesOf_20 s0 σ) := by
  unfold f_X2_titlesOf_20
  exact rx_iret C dX2_titlesOf_20
set_option maxRecDepth 100000 in
set_option maxHeartbeats 4000000 in
theorem w_X2_titlesOf_19 {α : Nat → Nat} {D : va_G} {cA : Nat → ClassId} {z : Cz} (C : CX shX α D cA z RX2 cX2_titlesOf 2 (some .int) 0 0) (σ : St) : RX emI shX α D cA z 2 σ 19 [] [] (f_X2_titlesOf_19 σ) := by
  unfold f_X2_titlesOf_19
  refine rx_iconst C dX2_titlesOf_19 ic_0 ?_
  exact RX.loc (w_X2_titlesOf_20 C (0 : Int32) σ) [] rfl
set_option maxRecDepth 100000 in
set_option maxHeartbeats 4000000 in
theorem w_X2_titlesOf_e {α : Nat → Nat} {D : va_G} {cA : Nat → ClassId} {z : Cz} (C : CX shX α D cA z RX2 cX2_titlesOf 2 (some .int) 0 0) (x1 : Int32) (σ : St) : RX emI shX α D cA z 2 σ 0 [(0, .ref (α 6)), (1, .int x1)] [] (f_X2_titlesOf x1 σ) := by
  unfold f_X2_titlesOf
  refine rx_iload_n C 1 dX2_titlesOf_0 rfl rfl ?_
  refine rx_if_lt C (tgt := 19) dX2_titlesOf_1 (by decide) (fun _ => ?_) (fun _ => ?_)
  · exact RX.loc (w_X2_titlesOf_19 C σ) [] rfl
  · refine rx_iload_n C 1 dX2_titlesOf_4 rfl rfl ?_
    refine rx_bipush C dX2_titlesOf_5 bp_8 ?_
    refine rx_icmp_ge C (tgt := 19) dX2_titlesOf_7 (by decide) (fun _ => ?_) (fun _ => ?_)
    · exact RX.loc (w_X2_titlesOf_19 C σ) [] rfl
    · refine rx_aload_n C 0 dX2_titlesOf_10 rfl rfl ?_
      refine rx_getC C (k := 4) sx_6 fc_X2 (by decide) 7 rfl lk_X2_25 dX2_titlesOf_11 ?_
      refine rx_iload_n C 1 dX2_titlesOf_14 rfl rfl ?_
      refine rx_iald C (n := 8) sx_7 dX2_titlesOf_15 (fun _ => ?_)
      refine rx_goto C (tgt := 20) dX2_titlesOf_16 (by decide) ?_
      exact RX.loc (w_X2_titlesOf_20 C (gI σ 7 (ix x1)) σ) [] rfl
theorem m_X2_titlesOf (l : Launch) {α : Nat → Nat} {D : va_G} {cA : Nat → ClassId} (hin : inj shX.length α) (x1 : Int32) (σ : St) : CT shX l yX2_titlesOf cX2_titlesOf 2 (some .int) 0 0 emI α D cA [.ref (α 6), .int x1] σ (f_X2_titlesOf x1 σ) := ct_of rfl (Nat.le_of_ble_eq_true rfl) hin (fun z _ C => w_X2_titlesOf_e C x1 σ)
set_option maxRecDepth 100000 in
set_option maxHeartbeats 4000000 in
theorem w_X4_honourOfSet_35 {α : Nat → Nat} {D : va_G} {cA : Nat → ClassId} {z : Cz} (C : CX shX α D cA z RX4 cX4_honourOfSet 4 (some .int) 1 22) (r0 : Nat) (hr0 : isLand r0) (k_4 : Int32 → Int32 → Int32 → St → Option (Int32 × St)) (hk_4 : ∀ (x1 : Int32) (x2 : Int32) (x3 : Int32) (σ : St), RX emI shX α D cA z 4 σ 4 [(0, .ref (α r0)), (1, .int x1), (2, .int x2), (3, .int x3)] [] (k_4 x1 x2 x3 σ)) (x1 : Int32) (x2 : Int32) (x3 : Int32) (σ : St) : RX emI shX α D cA z 4 σ 35 [(0, .ref (α r0)), (1, .int x1), (2, .int x2), (3, .int x3)] [] (f_X4_honourOfSet_35 r0 k_4 x1 x2 x3 σ) := by
  unfold f_X4_honourOfSet_35
  refine rx_iinc C (k0 := 3) (v := x3 + (1 : Int32)) [(3, .int (x3 + (1 : Int32))), (0, .ref (α r0)), (1, .int x1), (2, .int x2)] dX4_honourOfSet_35 rfl (congrArg _ ic_1) (by decide) rfl ?_
  refine rx_goto C (tgt := 4) dX4_honourOfSet_38 (by decide) ?_
  exact RX.loc (hk_4 x1 x2 (x3 + (1 : Int32)) σ) [1, 2, 3, 0] rfl
set_option maxRecDepth 100000 in
set_option maxHeartbeats 4000000 in
theorem w_X4_honourOfSet_4 {α : Nat → Nat} {D : va_G} {cA : Nat → ClassId} {z : Cz} (C : CX shX α D cA z RX4 cX4_honourOfSet 4 (some .int) 1 22) (r0 : Nat) (hr0 : isLand r0) : ∀ (n : Nat) (x1 : Int32) (x2 : Int32) (x3 : Int32) (σ : St), RX emI shX α D cA z 4 σ 4 [(0, .ref (α r0)), (1, .int x1), (2, .int x2), (3, .int x3)] [] (f_X4_honourOfSet_4 r0 n x1 x2 x3 σ) := by
  intro n
  induction n with
  | zero => intros; exact rx_none
  | succ n hk_4 =>
    intro x1 x2 x3 σ
    rw [f_X4_honourOfSet_4.eq_2]
    refine rx_iload_n C 3 dX4_honourOfSet_4 rfl rfl ?_
    refine rx_aload_n C 0 dX4_honourOfSet_5 rfl rfl ?_
    refine rx_getC C (k := 1) (ld_sh hr0) fc_X4 (by decide) (r0 + 4) rfl lk_X4_20 dX4_honourOfSet_6 ?_
    refine rx_getI C (k := 4) (ro_sh (ld_4 hr0)) fc_X8 (by decide) rfl lk_X4_51 dX4_honourOfSet_9 ?_
    refine rx_icmp_ge C (tgt := 41) dX4_honourOfSet_12 (by decide) (fun _ => ?_) (fun _ => ?_)
    · refine rx_iload_n C 2 dX4_honourOfSet_41 rfl rfl ?_
      exact rx_iret C dX4_honourOfSet_42
    · refine rx_iload_n C 1 dX4_honourOfSet_15 rfl rfl ?_
      refine rx_iload_n C 3 dX4_honourOfSet_16 rfl rfl ?_
      refine rx_ishr C dX4_honourOfSet_17 ?_
      refine rx_iconst C dX4_honourOfSet_18 ic_1 ?_
      refine rx_iand C dX4_honourOfSet_19 ?_
      refine rx_if_eq C (tgt := 35) dX4_honourOfSet_20 (by decide) (fun _ => ?_) (fun _ => ?_)
      · exact RX.loc (w_X4_honourOfSet_35 C r0 hr0 (f_X4_honourOfSet_4 r0 n) hk_4 x1 x2 x3 σ) [0, 1, 2, 3] rfl
      · refine rx_iload_n C 2 dX4_honourOfSet_23 rfl rfl ?_
        refine rx_aload_n C 0 dX4_honourOfSet_24 rfl rfl ?_
        refine rx_getC C (k := 1) (ld_sh hr0) fc_X4 (by decide) (r0 + 4) rfl lk_X4_20 dX4_honourOfSet_25 ?_
        refine rx_iload_n C 3 dX4_honourOfSet_28 rfl rfl ?_
        refine rx_iconst C dX4_honourOfSet_29 ic_0 ?_
        refine rx_callVi C [.int x3, .int (0 : Int32)] [.int x2] (m_X8_get z.l C.inj (r0 + 4) (ld_4 hr0) x3 (0 : Int32) σ) mv_X8_get lk_X4_85 (ro_sh (ld_4 hr0)) rfl rfl rfl (Nat.le_of_ble_eq_true rfl) ⟨Nat.le_of_ble_eq_true rfl, Nat.le_of_ble_eq_true rfl⟩ dX4_honourOfSet_30 (fun q3 => ?_)
        refine rx_iadd C dX4_honourOfSet_33 ?_
        refine rx_lti (fun w4 => ?_)
        refine rx_istore_n C [(2, .int w4), (0, .ref (α r0)), (1, .int x1), (3, .int x3)] dX4_honourOfSet_34 rfl (by decide) rfl ?_
        exact RX.loc (w_X4_honourOfSet_35 C r0 hr0 (f_X4_honourOfSet_4 r0 n) hk_4 x1 w4 x3 q3.2) [1, 2, 0, 3] rfl
set_option maxRecDepth 100000 in
set_option maxHeartbeats 4000000 in
theorem w_X4_honourOfSet_e {α : Nat → Nat} {D : va_G} {cA : Nat → ClassId} {z : Cz} (C : CX shX α D cA z RX4 cX4_honourOfSet 4 (some .int) 1 22) (r0 : Nat) (hr0 : isLand r0) (x1 : Int32) (σ : St) : RX emI shX α D cA z 4 σ 0 [(0, .ref (α r0)), (1, .int x1)] [] (f_X4_honourOfSet r0 x1 σ) := by
  unfold f_X4_honourOfSet
  refine rx_iconst C dX4_honourOfSet_0 ic_0 ?_
  refine rx_istore_n C [(2, .int (0 : Int32)), (0, .ref (α r0)), (1, .int x1)] dX4_honourOfSet_1 rfl (by decide) rfl ?_
  refine rx_iconst C dX4_honourOfSet_2 ic_0 ?_
  refine rx_istore_n C [(3, .int (0 : Int32)), (2, .int (0 : Int32)), (0, .ref (α r0)), (1, .int x1)] dX4_honourOfSet_3 rfl (by decide) rfl ?_
  exact RX.loc (w_X4_honourOfSet_4 C r0 hr0 FU x1 (0 : Int32) (0 : Int32) σ) [2, 3, 1, 0] rfl
theorem m_X4_honourOfSet (l : Launch) {α : Nat → Nat} {D : va_G} {cA : Nat → ClassId} (hin : inj shX.length α) (r0 : Nat) (hr0 : isLand r0) (x1 : Int32) (σ : St) : CT shX l yX4_honourOfSet cX4_honourOfSet 4 (some .int) 1 22 emI α D cA [.ref (α r0), .int x1] σ (f_X4_honourOfSet r0 x1 σ) := ct_of rfl (Nat.le_of_ble_eq_true rfl) hin (fun z _ C => w_X4_honourOfSet_e C r0 hr0 x1 σ)
set_option maxRecDepth 100000 in
set_option maxHeartbeats 4000000 in
theorem w_X2_honourOf_e {α : Nat → Nat} {D : va_G} {cA : Nat → ClassId} {z : Cz} (C : CX shX α D cA z RX2 cX2_honourOf 2 (some .int) 2 45) (x1 : Int32) (σ : St) : RX emI shX α D cA z 2 σ 0 [(0, .ref (α 6)), (1, .int x1)] [] (f_X2_honourOf x1 σ) := by
  unfold f_X2_honourOf
  refine rx_aload_n C 0 dX2_honourOf_0 rfl rfl ?_
  refine rx_getR C (k := 0) sx_6 fc_X2 (by decide) rfl lk_X2_9 dX2_honourOf_1 ?_
  refine rx_ltr (fun g4 => ?_)
  refine rx_if (fun hg4 => ?_) (fun _ => rx_none)
  refine rx_aload_n C 0 dX2_honourOf_4 rfl rfl ?_
  refine rx_iload_n C 1 dX2_honourOf_5 rfl rfl ?_
  refine rx_callVi C [.int x1] [.ref (α g4)] (m_X2_titlesOf z.l C.inj x1 σ) mv_X2_titlesOf lk_X2_140 sx_6 rfl rfl rfl (Nat.le_of_ble_eq_true rfl) ⟨Nat.le_of_ble_eq_true rfl, Nat.le_of_ble_eq_true rfl⟩ dX2_honourOf_6 (fun q5 => ?_)
  refine rx_callVi C [.int q5.1] [] (m_X4_honourOfSet z.l C.inj g4 (landB_is hg4) q5.1 q5.2) mv_X4_honourOfSet lk_X2_152 (ld_sh (landB_is hg4)) rfl rfl rfl (Nat.le_of_ble_eq_true rfl) ⟨Nat.le_of_ble_eq_true rfl, Nat.le_of_ble_eq_true rfl⟩ dX2_honourOf_9 (fun q6 => ?_)
  exact rx_iret C dX2_honourOf_12
theorem m_X2_honourOf (l : Launch) {α : Nat → Nat} {D : va_G} {cA : Nat → ClassId} (hin : inj shX.length α) (x1 : Int32) (σ : St) : CT shX l yX2_honourOf cX2_honourOf 2 (some .int) 2 45 emI α D cA [.ref (α 6), .int x1] σ (f_X2_honourOf x1 σ) := ct_of rfl (Nat.le_of_ble_eq_true rfl) hin (fun z _ C => w_X2_honourOf_e C x1 σ)
set_option maxRecDepth 100000 in
set_option maxHeartbeats 4000000 in
theorem w_X4_partsAt_39 {α : Nat → Nat} {D : va_G} {cA : Nat → ClassId} {z : Cz} (C : CX shX α D cA z RX4 cX4_partsAt 4 (some .int) 1 22) (r0 : Nat) (hr0 : isLand r0) (k_5 : Int32 → Int32 → Int32 → St → Option (Int32 × St)) (hk_5 : ∀ (x1 : Int32) (x2 : Int32) (x3 : Int32) (σ : St), RX emI shX α D cA z 4 σ 5 [(0, .ref (α r0)), (1, .int x1), (2, .int x2), (3, .int x3)] [] (k_5 x1 x2 x3 σ)) (x1 : Int32) (x2 : Int32) (x3 : Int32) (σ : St) : RX emI shX α D cA z 4 σ 39 [(0, .ref (α r0)), (1, .int x1), (2, .int x2), (3, .int x3)] [] (f_X4_partsAt_39 r0 k_5 x1 x2 x3 σ) := by
  unfold f_X4_partsAt_39
  refine rx_iinc C (k0 := 3) (v := x3 + (1 : Int32)) [(3, .int (x3 + (1 : Int32))), (0, .ref (α r0)), (1, .int x1), (2, .int x2)] dX4_partsAt_39 rfl (congrArg _ ic_1) (by decide) rfl ?_
  refine rx_goto C (tgt := 5) dX4_partsAt_42 (by decide) ?_
  exact RX.loc (hk_5 x1 x2 (x3 + (1 : Int32)) σ) [1, 2, 3, 0] rfl
set_option maxRecDepth 100000 in
set_option maxHeartbeats 4000000 in
theorem w_X4_partsAt_5 {α : Nat → Nat} {D : va_G} {cA : Nat → ClassId} {z : Cz} (C : CX shX α D cA z RX4 cX4_partsAt 4 (some .int) 1 22) (r0 : Nat) (hr0 : isLand r0) : ∀ (n : Nat) (x1 : Int32) (x2 : Int32) (x3 : Int32) (σ : St), RX emI shX α D cA z 4 σ 5 [(0, .ref (α r0)), (1, .int x1), (2, .int x2), (3, .int x3)] [] (f_X4_partsAt_5 r0 n x1 x2 x3 σ) := by
  intro n
  induction n with
  | zero => intros; exact rx_none
  | succ n hk_5 =>
    intro x1 x2 x3 σ
    rw [f_X4_partsAt_5.eq_2]
    refine rx_iload_n C 3 dX4_partsAt_5 rfl rfl ?_
    refine rx_aload_n C 0 dX4_partsAt_6 rfl rfl ?_
    refine rx_getC C (k := 2) (ld_sh hr0) fc_X4 (by decide) (r0 + 7) rfl lk_X4_23 dX4_partsAt_7 ?_
    refine rx_getI C (k := 4) (ro_sh (ld_7 hr0)) fc_X8 (by decide) rfl lk_X4_51 dX4_partsAt_10 ?_
    refine rx_icmp_ge C (tgt := 45) dX4_partsAt_13 (by decide) (fun _ => ?_) (fun _ => ?_)
    · refine rx_iload_n C 2 dX4_partsAt_45 rfl rfl ?_
      exact rx_iret C dX4_partsAt_46
    · refine rx_aload_n C 0 dX4_partsAt_16 rfl rfl ?_
      refine rx_getC C (k := 2) (ld_sh hr0) fc_X4 (by decide) (r0 + 7) rfl lk_X4_23 dX4_partsAt_17 ?_
      refine rx_iload_n C 3 dX4_partsAt_20 rfl rfl ?_
      refine rx_iconst C dX4_partsAt_21 ic_0 ?_
      refine rx_callVi C [.int x3, .int (0 : Int32)] [] (m_X8_get z.l C.inj (r0 + 7) (ld_7 hr0) x3 (0 : Int32) σ) mv_X8_get lk_X4_85 (ro_sh (ld_7 hr0)) rfl rfl rfl (Nat.le_of_ble_eq_true rfl) ⟨Nat.le_of_ble_eq_true rfl, Nat.le_of_ble_eq_true rfl⟩ dX4_partsAt_22 (fun q3 => ?_)
      refine rx_iload_n C 1 dX4_partsAt_25 rfl rfl ?_
      refine rx_icmp_gt C (tgt := 39) dX4_partsAt_26 (by decide) (fun _ => ?_) (fun _ => ?_)
      · exact RX.loc (w_X4_partsAt_39 C r0 hr0 (f_X4_partsAt_5 r0 n) hk_5 x1 x2 x3 q3.2) [0, 1, 2, 3] rfl
      · refine rx_aload_n C 0 dX4_partsAt_29 rfl rfl ?_
        refine rx_getC C (k := 2) (ld_sh hr0) fc_X4 (by decide) (r0 + 7) rfl lk_X4_23 dX4_partsAt_30 ?_
        refine rx_iload_n C 3 dX4_partsAt_33 rfl rfl ?_
        refine rx_iconst C dX4_partsAt_34 ic_1 ?_
        refine rx_callVi C [.int x3, .int (1 : Int32)] [] (m_X8_get z.l C.inj (r0 + 7) (ld_7 hr0) x3 (1 : Int32) q3.2) mv_X8_get lk_X4_85 (ro_sh (ld_7 hr0)) rfl rfl rfl (Nat.le_of_ble_eq_true rfl) ⟨Nat.le_of_ble_eq_true rfl, Nat.le_of_ble_eq_true rfl⟩ dX4_partsAt_35 (fun q4 => ?_)
        refine rx_istore_n C [(2, .int q4.1), (0, .ref (α r0)), (1, .int x1), (3, .int x3)] dX4_partsAt_38 rfl (by decide) rfl ?_
        exact RX.loc (w_X4_partsAt_39 C r0 hr0 (f_X4_partsAt_5 r0 n) hk_5 x1 q4.1 x3 q4.2) [1, 2, 0, 3] rfl
set_option maxRecDepth 100000 in
set_option maxHeartbeats 4000000 in
theorem w_X4_partsAt_e {α : Nat → Nat} {D : va_G} {cA : Nat → ClassId} {z : Cz} (C : CX shX α D cA z RX4 cX4_partsAt 4 (some .int) 1 22) (r0 : Nat) (hr0 : isLand r0) (x1 : Int32) (σ : St) : RX emI shX α D cA z 4 σ 0 [(0, .ref (α r0)), (1, .int x1)] [] (f_X4_partsAt r0 x1 σ) := by
  unfold f_X4_partsAt
  refine rx_bipush C dX4_partsAt_0 bp_100 ?_
  refine rx_istore_n C [(2, .int (100 : Int32)), (0, .ref (α r0)), (1, .int x1)] dX4_partsAt_2 rfl (by decide) rfl ?_
  refine rx_iconst C dX4_partsAt_3 ic_0 ?_
  refine rx_istore_n C [(3, .int (0 : Int32)), (2, .int (100 : Int32)), (0, .ref (α r0)), (1, .int x1)] dX4_partsAt_4 rfl (by decide) rfl ?_
  exact RX.loc (w_X4_partsAt_5 C r0 hr0 FU x1 (100 : Int32) (0 : Int32) σ) [2, 3, 1, 0] rfl
theorem m_X4_partsAt (l : Launch) {α : Nat → Nat} {D : va_G} {cA : Nat → ClassId} (hin : inj shX.length α) (r0 : Nat) (hr0 : isLand r0) (x1 : Int32) (σ : St) : CT shX l yX4_partsAt cX4_partsAt 4 (some .int) 1 22 emI α D cA [.ref (α r0), .int x1] σ (f_X4_partsAt r0 x1 σ) := ct_of rfl (Nat.le_of_ble_eq_true rfl) hin (fun z _ C => w_X4_partsAt_e C r0 hr0 x1 σ)
set_option maxRecDepth 100000 in
set_option maxHeartbeats 4000000 in
theorem w_X2_limitOf_e {α : Nat → Nat} {D : va_G} {cA : Nat → ClassId} {z : Cz} (C : CX shX α D cA z RX2 cX2_limitOf 5 (some .int) 4 98) (x1 : Int32) (σ : St) : RX emI shX α D cA z 5 σ 0 [(0, .ref (α 6)), (1, .int x1)] [] (f_X2_limitOf x1 σ) := by
  unfold f_X2_limitOf
  refine rx_aload_n C 0 dX2_limitOf_0 rfl rfl ?_
  refine rx_getR C (k := 0) sx_6 fc_X2 (by decide) rfl lk_X2_9 dX2_limitOf_1 ?_
  refine rx_ltr (fun g19 => ?_)
  refine rx_if (fun hg19 => ?_) (fun _ => rx_none)
  refine rx_getC C (k := 0) (ld_sh (landB_is hg19)) fc_X4 (by decide) (g19 + 1) rfl lk_X2_87 dX2_limitOf_4 ?_
  refine rx_iload_n C 1 dX2_limitOf_7 rfl rfl ?_
  refine rx_iconst C dX2_limitOf_8 ic_1 ?_
  refine rx_callVi C [.int x1, .int (1 : Int32)] [] (m_X8_get z.l C.inj (g19 + 1) (ld_1 (landB_is hg19)) x1 (1 : Int32) σ) mv_X8_get lk_X2_155 (ro_sh (ld_1 (landB_is hg19))) rfl rfl rfl (Nat.le_of_ble_eq_true rfl) ⟨Nat.le_of_ble_eq_true rfl, Nat.le_of_ble_eq_true rfl⟩ dX2_limitOf_9 (fun q20 => ?_)
  refine rx_istore_n C [(2, .int q20.1), (0, .ref (α 6)), (1, .int x1)] dX2_limitOf_12 rfl (by decide) rfl ?_
  refine rx_aload_n C 1 dX2_limitOf_13 rfl rfl ?_
  refine rx_iload_n C 2 dX2_limitOf_14 rfl rfl ?_
  refine rx_callVi C [.int x1] [] (m_X2_ageOf z.l C.inj x1 q20.2) mv_X2_ageOf lk_X2_161 sx_6 rfl rfl rfl (Nat.le_of_ble_eq_true rfl) ⟨Nat.le_of_ble_eq_true rfl, Nat.le_of_ble_eq_true rfl⟩ dX2_limitOf_15 (fun q21 => ?_)
  refine rx_istore_n C [(3, .int q21.1), (2, .int q20.1), (0, .ref (α 6)), (1, .int x1)] dX2_limitOf_18 rfl (by decide) rfl ?_
  refine rx_aload_n C 2 dX2_limitOf_19 rfl rfl ?_
  refine rx_getC C (k := 11) sx_6 fc_X2 (by decide) 15 rfl lk_X2_56 dX2_limitOf_20 ?_
  refine rx_iconst C dX2_limitOf_23 ic_m1 ?_
  refine rx_iload_n C 3 dX2_limitOf_24 rfl rfl ?_
  refine rx_callVv C [.int (-1 : Int32), .int x1] [] (m_X0_tell z.l C.inj (-1 : Int32) x1 q21.2) mv_X0_tell lk_X2_164 sx_15 rfl rfl rfl (Nat.le_of_ble_eq_true rfl) ⟨Nat.le_of_ble_eq_true rfl, Nat.le_of_ble_eq_true rfl⟩ dX2_limitOf_25 (fun q22 => ?_)
  refine rx_aload_n C 2 dX2_limitOf_28 rfl rfl ?_
  refine rx_getC C (k := 11) sx_6 fc_X2 (by decide) 15 rfl lk_X2_56 dX2_limitOf_29 ?_
  refine rx_bipush C dX2_limitOf_32 bp_m2 ?_
  refine rx_iload_n C 0 dX2_limitOf_34 rfl rfl ?_
  refine rx_callVv C [.int (-2 : Int32), .int q21.1] [] (m_X0_tell z.l C.inj (-2 : Int32) q21.1 q22.2) mv_X0_tell lk_X2_164 sx_15 rfl rfl rfl (Nat.le_of_ble_eq_true rfl) ⟨Nat.le_of_ble_eq_true rfl, Nat.le_of_ble_eq_true rfl⟩ dX2_limitOf_35 (fun q23 => ?_)
  refine rx_aload_n C 2 dX2_limitOf_38 rfl rfl ?_
  refine rx_getC C (k := 11) sx_6 fc_X2 (by decide) 15 rfl lk_X2_56 dX2_limitOf_39 ?_
  refine rx_bipush C dX2_limitOf_42 bp_m3 ?_
  refine rx_iload_n C 1 dX2_limitOf_44 rfl rfl ?_
  refine rx_callVv C [.int (-3 : Int32), .int q20.1] [] (m_X0_tell z.l C.inj (-3 : Int32) q20.1 q23.2) mv_X0_tell lk_X2_164 sx_15 rfl rfl rfl (Nat.le_of_ble_eq_true rfl) ⟨Nat.le_of_ble_eq_true rfl, Nat.le_of_ble_eq_true rfl⟩ dX2_limitOf_45 (fun q24 => ?_)
  refine rx_aload_n C 2 dX2_limitOf_48 rfl rfl ?_
  refine rx_getC C (k := 11) sx_6 fc_X2 (by decide) 15 rfl lk_X2_56 dX2_limitOf_49 ?_
  refine rx_bipush C dX2_limitOf_52 bp_m4 ?_
  refine rx_aload_n C 2 dX2_limitOf_54 rfl rfl ?_
  refine rx_iload_n C 3 dX2_limitOf_55 rfl rfl ?_
  refine rx_callVi C [.int x1] [.int (-4 : Int32), .ref (α 15)] (m_X2_honourOf z.l C.inj x1 q24.2) mv_X2_honourOf lk_X2_167 sx_6 rfl rfl rfl (Nat.le_of_ble_eq_true rfl) ⟨Nat.le_of_ble_eq_true rfl, Nat.le_of_ble_eq_true rfl⟩ dX2_limitOf_56 (fun q25 => ?_)
  refine rx_callVv C [.int (-4 : Int32), .int q25.1] [] (m_X0_tell z.l C.inj (-4 : Int32) q25.1 q25.2) mv_X0_tell lk_X2_164 sx_15 rfl rfl rfl (Nat.le_of_ble_eq_true rfl) ⟨Nat.le_of_ble_eq_true rfl, Nat.le_of_ble_eq_true rfl⟩ dX2_limitOf_59 (fun q26 => ?_)
  refine rx_aload_n C 2 dX2_limitOf_62 rfl rfl ?_
  refine rx_getC C (k := 11) sx_6 fc_X2 (by decide) 15 rfl lk_X2_56 dX2_limitOf_63 ?_
  refine rx_bipush C dX2_limitOf_66 bp_m5 ?_
  refine rx_aload_n C 2 dX2_limitOf_68 rfl rfl ?_
  refine rx_iload_n C 3 dX2_limitOf_69 rfl rfl ?_
  refine rx_callVi C [.int x1] [.int (-5 : Int32), .ref (α 15)] (m_X2_titlesOf z.l C.inj x1 q26.2) mv_X2_titlesOf lk_X2_140 sx_6 rfl rfl rfl (Nat.le_of_ble_eq_true rfl) ⟨Nat.le_of_ble_eq_true rfl, Nat.le_of_ble_eq_true rfl⟩ dX2_limitOf_70 (fun q27 => ?_)
  refine rx_callSi C [.int q27.1] [.int (-5 : Int32), .ref (α 15)] (m_J6_bitCount_0f7a4 z.l C.inj q27.1 q27.2) ms_J6_bitCount_0f7a4 lk_X2_170 rfl rfl (Nat.le_of_ble_eq_true rfl) ⟨Nat.le_of_ble_eq_true rfl, Nat.le_of_ble_eq_true rfl⟩ dX2_limitOf_73 (fun q28 => ?_)
  refine rx_callVv C [.int (-5 : Int32), .int q28.1] [] (m_X0_tell z.l C.inj (-5 : Int32) q28.1 q28.2) mv_X0_tell lk_X2_164 sx_15 rfl rfl rfl (Nat.le_of_ble_eq_true rfl) ⟨Nat.le_of_ble_eq_true rfl, Nat.le_of_ble_eq_true rfl⟩ dX2_limitOf_76 (fun q29 => ?_)
  refine rx_iload_n C 1 dX2_limitOf_79 rfl rfl ?_
  refine rx_aload_n C 2 dX2_limitOf_80 rfl rfl ?_
  refine rx_getR C (k := 0) sx_6 fc_X2 (by decide) rfl lk_X2_9 dX2_limitOf_81 ?_
  refine rx_ltr (fun g30 => ?_)
  refine rx_if (fun hg30 => ?_) (fun _ => rx_none)
  refine rx_iload_n C 0 dX2_limitOf_84 rfl rfl ?_
  refine rx_callVi C [.int q21.1] [.int q20.1] (m_X4_partsAt z.l C.inj g30 (landB_is hg30) q21.1 q29.2) mv_X4_partsAt lk_X2_175 (ld_sh (landB_is hg30)) rfl rfl rfl (Nat.le_of_ble_eq_true rfl) ⟨Nat.le_of_ble_eq_true rfl, Nat.le_of_ble_eq_true rfl⟩ dX2_limitOf_85 (fun q31 => ?_)
  refine rx_imul C dX2_limitOf_88 ?_
  refine rx_bipush C dX2_limitOf_89 bp_100 ?_
  refine rx_idivC C dX2_limitOf_91 (by decide) ?_
  refine rx_aload_n C 2 dX2_limitOf_92 rfl rfl ?_
  refine rx_getC C (k := 11) sx_6 fc_X2 (by decide) 15 rfl lk_X2_56 dX2_limitOf_93 ?_
  refine rx_aload_n C 2 dX2_limitOf_96 rfl rfl ?_
  refine rx_getR C (k := 0) sx_6 fc_X2 (by decide) rfl lk_X2_9 dX2_limitOf_97 ?_
  refine rx_ltr (fun g32 => ?_)
  refine rx_if (fun hg32 => ?_) (fun _ => rx_none)
  refine rx_callVi C [.ref (α g32)] [.int ((q20.1 * q31.1) / (100 : Int32))] (m_X0_firstLaw z.l C.inj g32 (landB_is hg32) q31.2) mv_X0_firstLaw lk_X2_178 sx_15 rfl rfl rfl (Nat.le_of_ble_eq_true rfl) ⟨Nat.le_of_ble_eq_true rfl, Nat.le_of_ble_eq_true rfl⟩ dX2_limitOf_100 (fun q33 => ?_)
  refine rx_iadd C dX2_limitOf_103 ?_
  refine rx_lti (fun w34 => ?_)
  refine rx_istore C [(4, .int w34), (3, .int q21.1), (2, .int q20.1), (0, .ref (α 6)), (1, .int x1)] dX2_limitOf_104 (by decide) rfl ?_
  refine rx_iconst C dX2_limitOf_106 ic_0 ?_
  refine rx_sipush C dX2_limitOf_107 sp_9999 ?_
  refine rx_iload C 0 dX2_limitOf_110 rfl ?_
  refine rx_callSi C [.int (9999 : Int32), .int w34] [.int (0 : Int32)] (m_J9_min_7cf53 z.l C.inj (9999 : Int32) w34 q33.2) ms_J9_min_7cf53 lk_X2_182 rfl rfl (Nat.le_of_ble_eq_true rfl) ⟨Nat.le_of_ble_eq_true rfl, Nat.le_of_ble_eq_true rfl⟩ dX2_limitOf_112 (fun q35 => ?_)
  refine rx_callSi C [.int (0 : Int32), .int q35.1] [] (m_J9_max_7cf53 z.l C.inj (0 : Int32) q35.1 q35.2) ms_J9_max_7cf53 lk_X2_156 rfl rfl (Nat.le_of_ble_eq_true rfl) ⟨Nat.le_of_ble_eq_true rfl, Nat.le_of_ble_eq_true rfl⟩ dX2_limitOf_115 (fun q36 => ?_)
  exact rx_iret C dX2_limitOf_118
theorem m_X2_limitOf (l : Launch) {α : Nat → Nat} {D : va_G} {cA : Nat → ClassId} (hin : inj shX.length α) (x1 : Int32) (σ : St) : CT shX l yX2_limitOf cX2_limitOf 5 (some .int) 4 98 emI α D cA [.ref (α 6), .int x1] σ (f_X2_limitOf x1 σ) := ct_of rfl (Nat.le_of_ble_eq_true rfl) hin (fun z _ C => w_X2_limitOf_e C x1 σ)
set_option maxRecDepth 100000 in
set_option maxHeartbeats 4000000 in
theorem w_X4_ouncesOf_20 {α : Nat → Nat} {D : va_G} {cA : Nat → ClassId} {z : Cz} (C : CX shX α D cA z RX4 cX4_ouncesOf 2 (some .int) 0 0) (r0 : Nat) (hr0 : isLand r0) (s0 : Int32) (σ : St) : RX emI shX α D cA z 2 σ 20 [] [.int s0] (f_X4_ouncesOf_20 r0 s0 σ) := by
  unfold f_X4_ouncesOf_20
  exact rx_iret C dX4_ouncesOf_20
set_option maxRecDepth 100000 in
set_option maxHeartbeats 4000000 in
theorem w_X4_ouncesOf_10 {α : Nat → Nat} {D : va_G} {cA : Nat → ClassId} {z : Cz} (C : CX shX α D cA z RX4 cX4_ouncesOf 2 (some .int) 0 0) (r0 : Nat) (hr0 : isLand r0) (σ : St) : RX emI shX α D cA z 2 σ 10 [] [] (f_X4_ouncesOf_10 r0 σ) := by
  unfold f_X4_ouncesOf_10
  refine rx_iconst C dX4_ouncesOf_10 ic_m1 ?_
  refine rx_goto C (tgt := 20) dX4_ouncesOf_11 (by decide) ?_
  exact RX.loc (w_X4_ouncesOf_20 C r0 hr0 (-1 : Int32) σ) [] rfl
set_option maxRecDepth 100000 in
set_option maxHeartbeats 4000000 in
theorem w_X4_ouncesOf_e {α : Nat → Nat} {D : va_G} {cA : Nat → ClassId} {z : Cz} (C : CX shX α D cA z RX4 cX4_ouncesOf 2 (some .int) 0 0) (r0 : Nat) (hr0 : isLand r0) (x1 : Int32) (σ : St) : RX emI shX α D cA z 2 σ 0 [(0, .ref (α r0)), (1, .int x1)] [] (f_X4_ouncesOf r0 x1 σ) := by
  unfold f_X4_ouncesOf
  refine rx_iload_n C 1 dX4_ouncesOf_0 rfl rfl ?_
  refine rx_if_lt C (tgt := 10) dX4_ouncesOf_1 (by decide) (fun _ => ?_) (fun _ => ?_)
  · exact RX.loc (w_X4_ouncesOf_10 C r0 hr0 σ) [] rfl
  · refine rx_iload_n C 1 dX4_ouncesOf_4 rfl rfl ?_
    refine rx_bipush C dX4_ouncesOf_5 bp_26 ?_
    refine rx_icmp_lt C (tgt := 14) dX4_ouncesOf_7 (by decide) (fun _ => ?_) (fun _ => ?_)
    · refine rx_aload_n C 0 dX4_ouncesOf_14 rfl rfl ?_
      refine rx_getC C (k := 5) (ld_sh hr0) fc_X4 (by decide) (r0 + 16) rfl lk_X4_32 dX4_ouncesOf_15 ?_
      refine rx_iload_n C 1 dX4_ouncesOf_18 rfl rfl ?_
      refine rx_iald C (n := 26) (ldl_16 hr0) dX4_ouncesOf_19 (fun _ => ?_)
      exact RX.loc (w_X4_ouncesOf_20 C r0 hr0 (gI σ (r0 + 16) (ix x1)) σ) [] rfl
    · exact RX.loc (w_X4_ouncesOf_10 C r0 hr0 σ) [] rfl
theorem m_X4_ouncesOf (l : Launch) {α : Nat → Nat} {D : va_G} {cA : Nat → ClassId} (hin : inj shX.length α) (r0 : Nat) (hr0 : isLand r0) (x1 : Int32) (σ : St) : CT shX l yX4_ouncesOf cX4_ouncesOf 2 (some .int) 0 0 emI α D cA [.ref (α r0), .int x1] σ (f_X4_ouncesOf r0 x1 σ) := ct_of rfl (Nat.le_of_ble_eq_true rfl) hin (fun z _ C => w_X4_ouncesOf_e C r0 hr0 x1 σ)
set_option maxRecDepth 100000 in
set_option maxHeartbeats 4000000 in
theorem w_X2_looseOunces_4 {α : Nat → Nat} {D : va_G} {cA : Nat → ClassId} {z : Cz} (C : CX shX α D cA z RX2 cX2_looseOunces 4 (some .int) 1 22) : ∀ (n : Nat) (x1 : Int32) (x2 : Int32) (x3 : Int32) (σ : St), RX emI shX α D cA z 4 σ 4 [(0, .ref (α 6)), (1, .int x1), (2, .int x2), (3, .int x3)] [] (f_X2_looseOunces_4 n x1 x2 x3 σ) := by
  intro n
  induction n with
  | zero => intros; exact rx_none
  | succ n hk_4 =>
    intro x1 x2 x3 σ
    rw [f_X2_looseOunces_4.eq_2]
    refine rx_iload_n C 3 dX2_looseOunces_4 rfl rfl ?_
    refine rx_bipush C dX2_looseOunces_5 bp_26 ?_
    refine rx_icmp_ge C (tgt := 34) dX2_looseOunces_7 (by decide) (fun _ => ?_) (fun _ => ?_)
    · refine rx_iload_n C 2 dX2_looseOunces_34 rfl rfl ?_
      exact rx_iret C dX2_looseOunces_35
    · refine rx_iload_n C 2 dX2_looseOunces_10 rfl rfl ?_
      refine rx_aload_n C 0 dX2_looseOunces_11 rfl rfl ?_
      refine rx_iload_n C 1 dX2_looseOunces_12 rfl rfl ?_
      refine rx_iload_n C 3 dX2_looseOunces_13 rfl rfl ?_
      refine rx_callVi C [.int x1, .int x3] [.int x2] (m_X2_count z.l C.inj x1 x3 σ) mv_X2_count lk_X2_134 sx_6 rfl rfl rfl (Nat.le_of_ble_eq_true rfl) ⟨Nat.le_of_ble_eq_true rfl, Nat.le_of_ble_eq_true rfl⟩ dX2_looseOunces_14 (fun q5 => ?_)
      refine rx_aload_n C 0 dX2_looseOunces_17 rfl rfl ?_
      refine rx_getR C (k := 0) sx_6 fc_X2 (by decide) rfl lk_X2_9 dX2_looseOunces_18 ?_
      refine rx_ltr (fun g6 => ?_)
      refine rx_if (fun hg6 => ?_) (fun _ => rx_none)
      refine rx_iload_n C 3 dX2_looseOunces_21 rfl rfl ?_
      refine rx_callVi C [.int x3] [.int q5.1, .int x2] (m_X4_ouncesOf z.l C.inj g6 (landB_is hg6) x3 q5.2) mv_X4_ouncesOf lk_X2_137 (ld_sh (landB_is hg6)) rfl rfl rfl (Nat.le_of_ble_eq_true rfl) ⟨Nat.le_of_ble_eq_true rfl, Nat.le_of_ble_eq_true rfl⟩ dX2_looseOunces_22 (fun q7 => ?_)
      refine rx_imul C dX2_looseOunces_25 ?_
      refine rx_iadd C dX2_looseOunces_26 ?_
      refine rx_lti (fun w8 => ?_)
      refine rx_istore_n C [(2, .int w8), (0, .ref (α 6)), (1, .int x1), (3, .int x3)] dX2_looseOunces_27 rfl (by decide) rfl ?_
      refine rx_iinc C (k0 := 3) (v := x3 + (1 : Int32)) [(3, .int (x3 + (1 : Int32))), (2, .int w8), (0, .ref (α 6)), (1, .int x1)] dX2_looseOunces_28 rfl (congrArg _ ic_1) (by decide) rfl ?_
      refine rx_goto C (tgt := 4) dX2_looseOunces_31 (by decide) ?_
      exact RX.loc (hk_4 x1 w8 (x3 + (1 : Int32)) q7.2) [2, 3, 1, 0] rfl
set_option maxRecDepth 100000 in
set_option maxHeartbeats 4000000 in
theorem w_X2_looseOunces_e {α : Nat → Nat} {D : va_G} {cA : Nat → ClassId} {z : Cz} (C : CX shX α D cA z RX2 cX2_looseOunces 4 (some .int) 1 22) (x1 : Int32) (σ : St) : RX emI shX α D cA z 4 σ 0 [(0, .ref (α 6)), (1, .int x1)] [] (f_X2_looseOunces x1 σ) := by
  unfold f_X2_looseOunces
  refine rx_iconst C dX2_looseOunces_0 ic_0 ?_
  refine rx_istore_n C [(2, .int (0 : Int32)), (0, .ref (α 6)), (1, .int x1)] dX2_looseOunces_1 rfl (by decide) rfl ?_
  refine rx_iconst C dX2_looseOunces_2 ic_0 ?_
  refine rx_istore_n C [(3, .int (0 : Int32)), (2, .int (0 : Int32)), (0, .ref (α 6)), (1, .int x1)] dX2_looseOunces_3 rfl (by decide) rfl ?_
  exact RX.loc (w_X2_looseOunces_4 C FU x1 (0 : Int32) (0 : Int32) σ) [2, 3, 1, 0] rfl
theorem m_X2_looseOunces (l : Launch) {α : Nat → Nat} {D : va_G} {cA : Nat → ClassId} (hin : inj shX.length α) (x1 : Int32) (σ : St) : CT shX l yX2_looseOunces cX2_looseOunces 4 (some .int) 1 22 emI α D cA [.ref (α 6), .int x1] σ (f_X2_looseOunces x1 σ) := ct_of rfl (Nat.le_of_ble_eq_true rfl) hin (fun z _ C => w_X2_looseOunces_e C x1 σ)
set_option maxRecDepth 100000 in
set_option maxHeartbeats 4000000 in
theorem w_X4_ouncesOfSet_35 {α : Nat → Nat} {D : va_G} {cA : Nat → ClassId} {z : Cz} (C : CX shX α D cA z RX4 cX4_ouncesOfSet 4 (some .int) 1 22) (r0 : Nat) (hr0 : isLand r0) (k_4 : Int32 → Int32 → Int32 → St → Option (Int32 × St)) (hk_4 : ∀ (x1 : Int32) (x2 : Int32) (x3 : Int32) (σ : St), RX emI shX α D cA z 4 σ 4 [(0, .ref (α r0)), (1, .int x1), (2, .int x2), (3, .int x3)] [] (k_4 x1 x2 x3 σ)) (x1 : Int32) (x2 : Int32) (x3 : Int32) (σ : St) : RX emI shX α D cA z 4 σ 35 [(0, .ref (α r0)), (1, .int x1), (2, .int x2), (3, .int x3)] [] (f_X4_ouncesOfSet_35 r0 k_4 x1 x2 x3 σ) := by
  unfold f_X4_ouncesOfSet_35
  refine rx_iinc C (k0 := 3) (v := x3 + (1 : Int32)) [(3, .int (x3 + (1 : Int32))), (0, .ref (α r0)), (1, .int x1), (2, .int x2)] dX4_ouncesOfSet_35 rfl (congrArg _ ic_1) (by decide) rfl ?_
  refine rx_goto C (tgt := 4) dX4_ouncesOfSet_38 (by decide) ?_
  exact RX.loc (hk_4 x1 x2 (x3 + (1 : Int32)) σ) [1, 2, 3, 0] rfl
set_option maxRecDepth 100000 in
set_option maxHeartbeats 4000000 in
theorem w_X4_ouncesOfSet_4 {α : Nat → Nat} {D : va_G} {cA : Nat → ClassId} {z : Cz} (C : CX shX α D cA z RX4 cX4_ouncesOfSet 4 (some .int) 1 22) (r0 : Nat) (hr0 : isLand r0) : ∀ (n : Nat) (x1 : Int32) (x2 : Int32) (x3 : Int32) (σ : St), RX emI shX α D cA z 4 σ 4 [(0, .ref (α r0)), (1, .int x1), (2, .int x2), (3, .int x3)] [] (f_X4_ouncesOfSet_4 r0 n x1 x2 x3 σ) := by
  intro n
  induction n with
  | zero => intros; exact rx_none
  | succ n hk_4 =>
    intro x1 x2 x3 σ
    rw [f_X4_ouncesOfSet_4.eq_2]
    refine rx_iload_n C 3 dX4_ouncesOfSet_4 rfl rfl ?_
    refine rx_aload_n C 0 dX4_ouncesOfSet_5 rfl rfl ?_
    refine rx_getC C (k := 1) (ld_sh hr0) fc_X4 (by decide) (r0 + 4) rfl lk_X4_20 dX4_ouncesOfSet_6 ?_
    refine rx_getI C (k := 4) (ro_sh (ld_4 hr0)) fc_X8 (by decide) rfl lk_X4_51 dX4_ouncesOfSet_9 ?_
    refine rx_icmp_ge C (tgt := 41) dX4_ouncesOfSet_12 (by decide) (fun _ => ?_) (fun _ => ?_)
    · refine rx_iload_n C 2 dX4_ouncesOfSet_41 rfl rfl ?_
      exact rx_iret C dX4_ouncesOfSet_42
    · refine rx_iload_n C 1 dX4_ouncesOfSet_15 rfl rfl ?_
      refine rx_iload_n C 3 dX4_ouncesOfSet_16 rfl rfl ?_
      refine rx_ishr C dX4_ouncesOfSet_17 ?_
      refine rx_iconst C dX4_ouncesOfSet_18 ic_1 ?_
      refine rx_iand C dX4_ouncesOfSet_19 ?_
      refine rx_if_eq C (tgt := 35) dX4_ouncesOfSet_20 (by decide) (fun _ => ?_) (fun _ => ?_)
      · exact RX.loc (w_X4_ouncesOfSet_35 C r0 hr0 (f_X4_ouncesOfSet_4 r0 n) hk_4 x1 x2 x3 σ) [0, 1, 2, 3] rfl
      · refine rx_iload_n C 2 dX4_ouncesOfSet_23 rfl rfl ?_
        refine rx_aload_n C 0 dX4_ouncesOfSet_24 rfl rfl ?_
        refine rx_getC C (k := 1) (ld_sh hr0) fc_X4 (by decide) (r0 + 4) rfl lk_X4_20 dX4_ouncesOfSet_25 ?_
        refine rx_iload_n C 3 dX4_ouncesOfSet_28 rfl rfl ?_
        refine rx_iconst C dX4_ouncesOfSet_29 ic_1 ?_
        refine rx_callVi C [.int x3, .int (1 : Int32)] [.int x2] (m_X8_get z.l C.inj (r0 + 4) (ld_4 hr0) x3 (1 : Int32) σ) mv_X8_get lk_X4_85 (ro_sh (ld_4 hr0)) rfl rfl rfl (Nat.le_of_ble_eq_true rfl) ⟨Nat.le_of_ble_eq_true rfl, Nat.le_of_ble_eq_true rfl⟩ dX4_ouncesOfSet_30 (fun q3 => ?_)
        refine rx_iadd C dX4_ouncesOfSet_33 ?_
        refine rx_lti (fun w4 => ?_)
        refine rx_istore_n C [(2, .int w4), (0, .ref (α r0)), (1, .int x1), (3, .int x3)] dX4_ouncesOfSet_34 rfl (by decide) rfl ?_
        exact RX.loc (w_X4_ouncesOfSet_35 C r0 hr0 (f_X4_ouncesOfSet_4 r0 n) hk_4 x1 w4 x3 q3.2) [1, 2, 0, 3] rfl
set_option maxRecDepth 100000 in
set_option maxHeartbeats 4000000 in
theorem w_X4_ouncesOfSet_e {α : Nat → Nat} {D : va_G} {cA : Nat → ClassId} {z : Cz} (C : CX shX α D cA z RX4 cX4_ouncesOfSet 4 (some .int) 1 22) (r0 : Nat) (hr0 : isLand r0) (x1 : Int32) (σ : St) : RX emI shX α D cA z 4 σ 0 [(0, .ref (α r0)), (1, .int x1)] [] (f_X4_ouncesOfSet r0 x1 σ) := by
  unfold f_X4_ouncesOfSet
  refine rx_iconst C dX4_ouncesOfSet_0 ic_0 ?_
  refine rx_istore_n C [(2, .int (0 : Int32)), (0, .ref (α r0)), (1, .int x1)] dX4_ouncesOfSet_1 rfl (by decide) rfl ?_
  refine rx_iconst C dX4_ouncesOfSet_2 ic_0 ?_
  refine rx_istore_n C [(3, .int (0 : Int32)), (2, .int (0 : Int32)), (0, .ref (α r0)), (1, .int x1)] dX4_ouncesOfSet_3 rfl (by decide) rfl ?_
  exact RX.loc (w_X4_ouncesOfSet_4 C r0 hr0 FU x1 (0 : Int32) (0 : Int32) σ) [2, 3, 1, 0] rfl
theorem m_X4_ouncesOfSet (l : Launch) {α : Nat → Nat} {D : va_G} {cA : Nat → ClassId} (hin : inj shX.length α) (r0 : Nat) (hr0 : isLand r0) (x1 : Int32) (σ : St) : CT shX l yX4_ouncesOfSet cX4_ouncesOfSet 4 (some .int) 1 22 emI α D cA [.ref (α r0), .int x1] σ (f_X4_ouncesOfSet r0 x1 σ) := ct_of rfl (Nat.le_of_ble_eq_true rfl) hin (fun z _ C => w_X4_ouncesOfSet_e C r0 hr0 x1 σ)
set_option maxRecDepth 100000 in
set_option maxHeartbeats 4000000 in
theorem w_X2_loadOf_e {α : Nat → Nat} {D : va_G} {cA : Nat → ClassId} {z : Cz} (C : CX shX α D cA z RX2 cX2_loadOf 2 (some .int) 2 45) (x1 : Int32) (σ : St) : RX emI shX α D cA z 2 σ 0 [(0, .ref (α 6)), (1, .int x1)] [] (f_X2_loadOf x1 σ) := by
  unfold f_X2_loadOf
  refine rx_aload_n C 0 dX2_loadOf_0 rfl rfl ?_
  refine rx_getR C (k := 0) sx_6 fc_X2 (by decide) rfl lk_X2_9 dX2_loadOf_1 ?_
  refine rx_ltr (fun g5 => ?_)
  refine rx_if (fun hg5 => ?_) (fun _ => rx_none)
  refine rx_aload_n C 0 dX2_loadOf_4 rfl rfl ?_
  refine rx_iload_n C 1 dX2_loadOf_5 rfl rfl ?_
  refine rx_callVi C [.int x1] [.ref (α g5)] (m_X2_titlesOf z.l C.inj x1 σ) mv_X2_titlesOf lk_X2_140 sx_6 rfl rfl rfl (Nat.le_of_ble_eq_true rfl) ⟨Nat.le_of_ble_eq_true rfl, Nat.le_of_ble_eq_true rfl⟩ dX2_loadOf_6 (fun q6 => ?_)
  refine rx_callVi C [.int q6.1] [] (m_X4_ouncesOfSet z.l C.inj g5 (landB_is hg5) q6.1 q6.2) mv_X4_ouncesOfSet lk_X2_143 (ld_sh (landB_is hg5)) rfl rfl rfl (Nat.le_of_ble_eq_true rfl) ⟨Nat.le_of_ble_eq_true rfl, Nat.le_of_ble_eq_true rfl⟩ dX2_loadOf_9 (fun q7 => ?_)
  refine rx_aload_n C 0 dX2_loadOf_12 rfl rfl ?_
  refine rx_iload_n C 1 dX2_loadOf_13 rfl rfl ?_
  refine rx_callVi C [.int x1] [.int q7.1] (m_X2_looseOunces z.l C.inj x1 q7.2) mv_X2_looseOunces lk_X2_146 sx_6 rfl rfl rfl (Nat.le_of_ble_eq_true rfl) ⟨Nat.le_of_ble_eq_true rfl, Nat.le_of_ble_eq_true rfl⟩ dX2_loadOf_14 (fun q8 => ?_)
  refine rx_iadd C dX2_loadOf_17 ?_
  exact rx_iret C dX2_loadOf_18
theorem m_X2_loadOf (l : Launch) {α : Nat → Nat} {D : va_G} {cA : Nat → ClassId} (hin : inj shX.length α) (x1 : Int32) (σ : St) : CT shX l yX2_loadOf cX2_loadOf 2 (some .int) 2 45 emI α D cA [.ref (α 6), .int x1] σ (f_X2_loadOf x1 σ) := ct_of rfl (Nat.le_of_ble_eq_true rfl) hin (fun z _ C => w_X2_loadOf_e C x1 σ)
set_option maxRecDepth 100000 in
set_option maxHeartbeats 4000000 in
theorem w_X8_letterOf_10 {α : Nat → Nat} {D : va_G} {cA : Nat → ClassId} {z : Cz} (C : CX shX α D cA z RX8 cX8_letterOf 2 (some .int) 0 0) (σ : St) : RX emI shX α D cA z 2 σ 10 [] [] (f_X8_letterOf_10 σ) := by
  unfold f_X8_letterOf_10
  refine rx_iconst C dX8_letterOf_10 ic_m1 ?_
  exact rx_iret C dX8_letterOf_11
set_option maxRecDepth 100000 in
set_option maxHeartbeats 4000000 in
theorem w_X8_letterOf_e {α : Nat → Nat} {D : va_G} {cA : Nat → ClassId} {z : Cz} (C : CX shX α D cA z RX8 cX8_letterOf 2 (some .int) 0 0) (x0 : Int32) (x1 : Int32) (σ : St) : RX emI shX α D cA z 2 σ 0 [(0, .int x0), (1, .int x1)] [] (f_X8_letterOf x0 x1 σ) := by
  unfold f_X8_letterOf
  refine rx_iload_n C 1 dX8_letterOf_0 rfl rfl ?_
  refine rx_if_lt C (tgt := 10) dX8_letterOf_1 (by decide) (fun _ => ?_) (fun _ => ?_)
  · exact RX.loc (w_X8_letterOf_10 C σ) [] rfl
  · refine rx_iload_n C 1 dX8_letterOf_4 rfl rfl ?_
    refine rx_bipush C dX8_letterOf_5 bp_6 ?_
    refine rx_icmp_lt C (tgt := 12) dX8_letterOf_7 (by decide) (fun _ => ?_) (fun _ => ?_)
    · refine rx_iload_n C 0 dX8_letterOf_12 rfl rfl ?_
      refine rx_iload_n C 1 dX8_letterOf_13 rfl rfl ?_
      refine rx_iconst C dX8_letterOf_14 ic_5 ?_
      refine rx_imul C dX8_letterOf_15 ?_
      refine rx_ishr C dX8_letterOf_16 ?_
      refine rx_bipush C dX8_letterOf_17 bp_31 ?_
      refine rx_iand C dX8_letterOf_19 ?_
      refine rx_iconst C dX8_letterOf_20 ic_1 ?_
      refine rx_isub C dX8_letterOf_21 ?_
      exact rx_iret C dX8_letterOf_22
    · exact RX.loc (w_X8_letterOf_10 C σ) [] rfl
theorem m_X8_letterOf (l : Launch) {α : Nat → Nat} {D : va_G} {cA : Nat → ClassId} (hin : inj shX.length α) (x0 : Int32) (x1 : Int32) (σ : St) : CT shX l yX8_letterOf cX8_letterOf 2 (some .int) 0 0 emI α D cA [.int x0, .int x1] σ (f_X8_letterOf x0 x1 σ) := ct_of rfl (Nat.le_of_ble_eq_true rfl) hin (fun z _ C => w_X8_letterOf_e C x0 x1 σ)
set_option maxRecDepth 100000 in
set_option maxHeartbeats 4000000 in
theorem w_X8_name_18 {α : Nat → Nat} {D : va_G} {cA : Nat → ClassId} {z : Cz} (C : CX shX α D cA z RX8 cX8_name 2 (some .int) 1 21) (r0 : Nat) (hr0 : isRoll r0) (s0 : Int32) (σ : St) : RX emI shX α D cA z 2 σ 18 [] [.int s0] (f_X8_name_18 r0 s0 σ) := by
  unfold f_X8_name_18
  exact rx_iret C dX8_name_18
set_option maxRecDepth 100000 in
set_option maxHeartbeats 4000000 in
theorem w_X8_name_e {α : Nat → Nat} {D : va_G} {cA : Nat → ClassId} {z : Cz} (C : CX shX α D cA z RX8 cX8_name 2 (some .int) 1 21) (r0 : Nat) (hr0 : isRoll r0) (x1 : Int32) (σ : St) : RX emI shX α D cA z 2 σ 0 [(0, .ref (α r0)), (1, .int x1)] [] (f_X8_name r0 x1 σ) := by
  unfold f_X8_name
  refine rx_aload_n C 0 dX8_name_0 rfl rfl ?_
  refine rx_iload_n C 1 dX8_name_1 rfl rfl ?_
  refine rx_callVi C [.int x1] [] (m_X8_holds z.l C.inj r0 hr0 x1 σ) mv_X8_holds lk_X8_28 (ro_sh hr0) rfl rfl rfl (Nat.le_of_ble_eq_true rfl) ⟨Nat.le_of_ble_eq_true rfl, Nat.le_of_ble_eq_true rfl⟩ dX8_name_2 (fun q2 => ?_)
  refine rx_if_eq C (tgt := 17) dX8_name_5 (by decide) (fun _ => ?_) (fun _ => ?_)
  · refine rx_iconst C dX8_name_17 ic_0 ?_
    exact RX.loc (w_X8_name_18 C r0 hr0 (0 : Int32) q2.2) [] rfl
  · refine rx_aload_n C 0 dX8_name_8 rfl rfl ?_
    refine rx_getC C (k := 2) (ro_sh hr0) fc_X8 (by decide) (r0 + 1) rfl lk_X8_18 dX8_name_9 ?_
    refine rx_iload_n C 1 dX8_name_12 rfl rfl ?_
    refine rx_iald C (n := (lnX (r0 + 1))) (ro_1 hr0) dX8_name_13 (fun _ => ?_)
    refine rx_goto C (tgt := 18) dX8_name_14 (by decide) ?_
    exact RX.loc (w_X8_name_18 C r0 hr0 (gI q2.2 (r0 + 1) (ix x1)) q2.2) [] rfl
theorem m_X8_name (l : Launch) {α : Nat → Nat} {D : va_G} {cA : Nat → ClassId} (hin : inj shX.length α) (r0 : Nat) (hr0 : isRoll r0) (x1 : Int32) (σ : St) : CT shX l yX8_name cX8_name 2 (some .int) 1 21 emI α D cA [.ref (α r0), .int x1] σ (f_X8_name r0 x1 σ) := ct_of rfl (Nat.le_of_ble_eq_true rfl) hin (fun z _ C => w_X8_name_e C r0 hr0 x1 σ)
set_option maxRecDepth 100000 in
set_option maxHeartbeats 4000000 in
theorem w_X4_rankOf_55 {α : Nat → Nat} {D : va_G} {cA : Nat → ClassId} {z : Cz} (C : CX shX α D cA z RX4 cX4_rankOf 7 (some .int) 2 42) (r0 : Nat) (hr0 : isLand r0) (x5 : Int32) (σ : St) : RX emI shX α D cA z 7 σ 55 [(5, .int x5)] [] (f_X4_rankOf_55 r0 x5 σ) := by
  unfold f_X4_rankOf_55
  refine rx_iload C 0 dX4_rankOf_55 rfl ?_
  exact rx_iret C dX4_rankOf_57
set_option maxRecDepth 100000 in
set_option maxHeartbeats 4000000 in
theorem w_X4_rankOf_49 {α : Nat → Nat} {D : va_G} {cA : Nat → ClassId} {z : Cz} (C : CX shX α D cA z RX4 cX4_rankOf 7 (some .int) 2 42) (r0 : Nat) (hr0 : isLand r0) (k_22 : Int32 → Int32 → Int32 → Int32 → Int32 → St → Option (Int32 × St)) (hk_22 : ∀ (x2 : Int32) (x3 : Int32) (x4 : Int32) (x5 : Int32) (x6 : Int32) (σ : St), RX emI shX α D cA z 7 σ 22 [(2, .int x2), (3, .int x3), (4, .int x4), (5, .int x5), (6, .int x6)] [] (k_22 x2 x3 x4 x5 x6 σ)) (x2 : Int32) (x3 : Int32) (x4 : Int32) (x5 : Int32) (x6 : Int32) (σ : St) : RX emI shX α D cA z 7 σ 49 [(2, .int x2), (3, .int x3), (4, .int x4), (5, .int x5), (6, .int x6)] [] (f_X4_rankOf_49 r0 k_22 x2 x3 x4 x5 x6 σ) := by
  unfold f_X4_rankOf_49
  refine rx_iinc C (k0 := 4) (v := x6 + (1 : Int32)) [(6, .int (x6 + (1 : Int32))), (2, .int x2), (3, .int x3), (4, .int x4), (5, .int x5)] dX4_rankOf_49 rfl (congrArg _ ic_1) (by decide) rfl ?_
  refine rx_goto C (tgt := 22) dX4_rankOf_52 (by decide) ?_
  exact RX.loc (hk_22 x2 x3 x4 x5 (x6 + (1 : Int32)) σ) [1, 2, 3, 4, 0] rfl
set_option maxRecDepth 100000 in
set_option maxHeartbeats 4000000 in
theorem w_X4_rankOf_22 {α : Nat → Nat} {D : va_G} {cA : Nat → ClassId} {z : Cz} (C : CX shX α D cA z RX4 cX4_rankOf 7 (some .int) 2 42) (r0 : Nat) (hr0 : isLand r0) : ∀ (n : Nat) (x2 : Int32) (x3 : Int32) (x4 : Int32) (x5 : Int32) (x6 : Int32) (σ : St), RX emI shX α D cA z 7 σ 22 [(2, .int x2), (3, .int x3), (4, .int x4), (5, .int x5), (6, .int x6)] [] (f_X4_rankOf_22 r0 n x2 x3 x4 x5 x6 σ) := by
  intro n
  induction n with
  | zero => intros; exact rx_none
  | succ n hk_22 =>
    intro x2 x3 x4 x5 x6 σ
    rw [f_X4_rankOf_22.eq_2]
    refine rx_iload C 4 dX4_rankOf_22 rfl ?_
    refine rx_iload_n C 0 dX4_rankOf_24 rfl rfl ?_
    refine rx_icmp_gt C (tgt := 55) dX4_rankOf_25 (by decide) (fun _ => ?_) (fun _ => ?_)
    · exact RX.loc (w_X4_rankOf_55 C r0 hr0 x5 σ) [3] rfl
    · refine rx_iload C 4 dX4_rankOf_28 rfl ?_
      refine rx_bipush C dX4_rankOf_30 bp_6 ?_
      refine rx_icmp_ge C (tgt := 55) dX4_rankOf_32 (by decide) (fun _ => ?_) (fun _ => ?_)
      · exact RX.loc (w_X4_rankOf_55 C r0 hr0 x5 σ) [3] rfl
      · refine rx_iload_n C 1 dX4_rankOf_35 rfl rfl ?_
        refine rx_iload C 4 dX4_rankOf_36 rfl ?_
        refine rx_callSi C [.int x3, .int x6] [] (m_X8_letterOf z.l C.inj x3 x6 σ) ms_X8_letterOf lk_X4_68 rfl rfl (Nat.le_of_ble_eq_true rfl) ⟨Nat.le_of_ble_eq_true rfl, Nat.le_of_ble_eq_true rfl⟩ dX4_rankOf_38 (fun q6 => ?_)
        refine rx_iload C 2 dX4_rankOf_41 rfl ?_
        refine rx_icmp_ne C (tgt := 49) dX4_rankOf_43 (by decide) (fun _ => ?_) (fun _ => ?_)
        · refine rx_iinc C (k0 := 3) (v := x5 + (1 : Int32)) [(5, .int (x5 + (1 : Int32))), (2, .int x2), (3, .int x3), (4, .int x4), (6, .int x6)] dX4_rankOf_46 rfl (congrArg _ ic_1) (by decide) rfl ?_
          exact RX.loc (w_X4_rankOf_49 C r0 hr0 (f_X4_rankOf_22 r0 n) hk_22 x2 x3 x4 (x5 + (1 : Int32)) x6 q6.2) [1, 2, 3, 0, 4] rfl
        · exact RX.loc (w_X4_rankOf_49 C r0 hr0 (f_X4_rankOf_22 r0 n) hk_22 x2 x3 x4 x5 x6 q6.2) [0, 1, 2, 3, 4] rfl
set_option maxRecDepth 100000 in
set_option maxHeartbeats 4000000 in
theorem w_X4_rankOf_e {α : Nat → Nat} {D : va_G} {cA : Nat → ClassId} {z : Cz} (C : CX shX α D cA z RX4 cX4_rankOf 7 (some .int) 2 42) (r0 : Nat) (hr0 : isLand r0) (x1 : Int32) (x2 : Int32) (σ : St) : RX emI shX α D cA z 7 σ 0 [(0, .ref (α r0)), (1, .int x1), (2, .int x2)] [] (f_X4_rankOf r0 x1 x2 σ) := by
  unfold f_X4_rankOf
  refine rx_aload_n C 0 dX4_rankOf_0 rfl rfl ?_
  refine rx_getC C (k := 1) (ld_sh hr0) fc_X4 (by decide) (r0 + 4) rfl lk_X4_20 dX4_rankOf_1 ?_
  refine rx_iload_n C 1 dX4_rankOf_4 rfl rfl ?_
  refine rx_callVi C [.int x1] [] (m_X8_name z.l C.inj (r0 + 4) (ld_4 hr0) x1 σ) mv_X8_name lk_X4_75 (ro_sh (ld_4 hr0)) rfl rfl rfl (Nat.le_of_ble_eq_true rfl) ⟨Nat.le_of_ble_eq_true rfl, Nat.le_of_ble_eq_true rfl⟩ dX4_rankOf_5 (fun q4 => ?_)
  refine rx_istore_n C [(3, .int q4.1), (0, .ref (α r0)), (1, .int x1), (2, .int x2)] dX4_rankOf_8 rfl (by decide) rfl ?_
  refine rx_iload_n C 0 dX4_rankOf_9 rfl rfl ?_
  refine rx_iload_n C 3 dX4_rankOf_10 rfl rfl ?_
  refine rx_callSi C [.int q4.1, .int x2] [] (m_X8_letterOf z.l C.inj q4.1 x2 q4.2) ms_X8_letterOf lk_X4_68 rfl rfl (Nat.le_of_ble_eq_true rfl) ⟨Nat.le_of_ble_eq_true rfl, Nat.le_of_ble_eq_true rfl⟩ dX4_rankOf_11 (fun q5 => ?_)
  refine rx_istore C [(4, .int q5.1), (3, .int q4.1), (0, .ref (α r0)), (1, .int x1), (2, .int x2)] dX4_rankOf_14 (by decide) rfl ?_
  refine rx_iconst C dX4_rankOf_16 ic_0 ?_
  refine rx_istore C [(5, .int (0 : Int32)), (4, .int q5.1), (3, .int q4.1), (0, .ref (α r0)), (1, .int x1), (2, .int x2)] dX4_rankOf_17 (by decide) rfl ?_
  refine rx_iconst C dX4_rankOf_19 ic_0 ?_
  refine rx_istore C [(6, .int (0 : Int32)), (5, .int (0 : Int32)), (4, .int q5.1), (3, .int q4.1), (0, .ref (α r0)), (1, .int x1), (2, .int x2)] dX4_rankOf_20 (by decide) rfl ?_
  exact RX.loc (w_X4_rankOf_22 C r0 hr0 FU x2 q4.1 q5.1 (0 : Int32) (0 : Int32) q5.2) [6, 3, 2, 1, 0] rfl
theorem m_X4_rankOf (l : Launch) {α : Nat → Nat} {D : va_G} {cA : Nat → ClassId} (hin : inj shX.length α) (r0 : Nat) (hr0 : isLand r0) (x1 : Int32) (x2 : Int32) (σ : St) : CT shX l yX4_rankOf cX4_rankOf 7 (some .int) 2 42 emI α D cA [.ref (α r0), .int x1, .int x2] σ (f_X4_rankOf r0 x1 x2 σ) := ct_of rfl (Nat.le_of_ble_eq_true rfl) hin (fun z _ C => w_X4_rankOf_e C r0 hr0 x1 x2 σ)
set_option maxRecDepth 100000 in
set_option maxHeartbeats 4000000 in
theorem w_X8_lengthOf_25 {α : Nat → Nat} {D : va_G} {cA : Nat → ClassId} {z : Cz} (C : CX shX α D cA z RX8 cX8_lengthOf 2 (some .int) 0 0) (x1 : Int32) (σ : St) : RX emI shX α D cA z 2 σ 25 [(1, .int x1)] [] (f_X8_lengthOf_25 x1 σ) := by
  unfold f_X8_lengthOf_25
  refine rx_iload_n C 0 dX8_lengthOf_25 rfl rfl ?_
  exact rx_iret C dX8_lengthOf_26
set_option maxRecDepth 100000 in
set_option maxHeartbeats 4000000 in
theorem w_X8_lengthOf_2 {α : Nat → Nat} {D : va_G} {cA : Nat → ClassId} {z : Cz} (C : CX shX α D cA z RX8 cX8_lengthOf 2 (some .int) 0 0) : ∀ (n : Nat) (x0 : Int32) (x1 : Int32) (σ : St), RX emI shX α D cA z 2 σ 2 [(0, .int x0), (1, .int x1)] [] (f_X8_lengthOf_2 n x0 x1 σ) := by
  intro n
  induction n with
  | zero => intros; exact rx_none
  | succ n hk_2 =>
    intro x0 x1 σ
    rw [f_X8_lengthOf_2.eq_2]
    refine rx_iload_n C 1 dX8_lengthOf_2 rfl rfl ?_
    refine rx_bipush C dX8_lengthOf_3 bp_6 ?_
    refine rx_icmp_ge C (tgt := 25) dX8_lengthOf_5 (by decide) (fun _ => ?_) (fun _ => ?_)
    · exact RX.loc (w_X8_lengthOf_25 C x1 σ) [1] rfl
    · refine rx_iload_n C 0 dX8_lengthOf_8 rfl rfl ?_
      refine rx_iload_n C 1 dX8_lengthOf_9 rfl rfl ?_
      refine rx_iconst C dX8_lengthOf_10 ic_5 ?_
      refine rx_imul C dX8_lengthOf_11 ?_
      refine rx_ishr C dX8_lengthOf_12 ?_
      refine rx_bipush C dX8_lengthOf_13 bp_31 ?_
      refine rx_iand C dX8_lengthOf_15 ?_
      refine rx_if_eq C (tgt := 25) dX8_lengthOf_16 (by decide) (fun _ => ?_) (fun _ => ?_)
      · exact RX.loc (w_X8_lengthOf_25 C x1 σ) [1] rfl
      · refine rx_iinc C (k0 := 1) (v := x1 + (1 : Int32)) [(1, .int (x1 + (1 : Int32))), (0, .int x0)] dX8_lengthOf_19 rfl (congrArg _ ic_1) (by decide) rfl ?_
        refine rx_goto C (tgt := 2) dX8_lengthOf_22 (by decide) ?_
        exact RX.loc (hk_2 x0 (x1 + (1 : Int32)) σ) [1, 0] rfl
set_option maxRecDepth 100000 in
set_option maxHeartbeats 4000000 in
theorem w_X8_lengthOf_e {α : Nat → Nat} {D : va_G} {cA : Nat → ClassId} {z : Cz} (C : CX shX α D cA z RX8 cX8_lengthOf 2 (some .int) 0 0) (x0 : Int32) (σ : St) : RX emI shX α D cA z 2 σ 0 [(0, .int x0)] [] (f_X8_lengthOf x0 σ) := by
  unfold f_X8_lengthOf
  refine rx_iconst C dX8_lengthOf_0 ic_0 ?_
  refine rx_istore_n C [(1, .int (0 : Int32)), (0, .int x0)] dX8_lengthOf_1 rfl (by decide) rfl ?_
  exact RX.loc (w_X8_lengthOf_2 C FU x0 (0 : Int32) σ) [1, 0] rfl
theorem m_X8_lengthOf (l : Launch) {α : Nat → Nat} {D : va_G} {cA : Nat → ClassId} (hin : inj shX.length α) (x0 : Int32) (σ : St) : CT shX l yX8_lengthOf cX8_lengthOf 2 (some .int) 0 0 emI α D cA [.int x0] σ (f_X8_lengthOf x0 σ) := ct_of rfl (Nat.le_of_ble_eq_true rfl) hin (fun z _ C => w_X8_lengthOf_e C x0 σ)
set_option maxRecDepth 100000 in
set_option maxHeartbeats 4000000 in
theorem w_X2_gainOunces_136 {α : Nat → Nat} {D : va_G} {cA : Nat → ClassId} {z : Cz} (C : CX shX α D cA z RX2 cX2_gainOunces 9 (some .int) 5 122) (s0 : Int32) (σ : St) : RX emI shX α D cA z 9 σ 136 [] [.int s0] (f_X2_gainOunces_136 s0 σ) := by
  unfold f_X2_gainOunces_136
  exact rx_iret C dX2_gainOunces_136
set_option maxRecDepth 100000 in
set_option maxHeartbeats 4000000 in
theorem w_X2_gainOunces_105 {α : Nat → Nat} {D : va_G} {cA : Nat → ClassId} {z : Cz} (C : CX shX α D cA z RX2 cX2_gainOunces 9 (some .int) 5 122) (k_35 : Int32 → Int32 → Int32 → Int32 → Int32 → Int32 → St → Option (Int32 × St)) (hk_35 : ∀ (x1 : Int32) (x2 : Int32) (x3 : Int32) (x4 : Int32) (x5 : Int32) (x6 : Int32) (σ : St), RX emI shX α D cA z 9 σ 35 [(0, .ref (α 6)), (1, .int x1), (2, .int x2), (3, .int x3), (4, .int x4), (5, .int x5), (6, .int x6)] [] (k_35 x1 x2 x3 x4 x5 x6 σ)) (x1 : Int32) (x2 : Int32) (x3 : Int32) (x4 : Int32) (x6 : Int32) (s1 : Int32) (s0 : Int32) (σ : St) : RX emI shX α D cA z 9 σ 105 [(0, .ref (α 6)), (1, .int x1), (2, .int x2), (3, .int x3), (4, .int x4), (6, .int x6)] [.int s1, .int s0] (f_X2_gainOunces_105 k_35 x1 x2 x3 x4 x6 s1 s0 σ) := by
  unfold f_X2_gainOunces_105
  refine rx_iadd C dX2_gainOunces_105 ?_
  refine rx_lti (fun w28 => ?_)
  refine rx_istore C [(5, .int w28), (0, .ref (α 6)), (1, .int x1), (2, .int x2), (3, .int x3), (4, .int x4), (6, .int x6)] dX2_gainOunces_106 (by decide) rfl ?_
  refine rx_iinc C (k0 := 6) (v := x6 + (1 : Int32)) [(6, .int (x6 + (1 : Int32))), (5, .int w28), (0, .ref (α 6)), (1, .int x1), (2, .int x2), (3, .int x3), (4, .int x4)] dX2_gainOunces_108 rfl (congrArg _ ic_1) (by decide) rfl ?_
  refine rx_goto C (tgt := 35) dX2_gainOunces_111 (by decide) ?_
  exact RX.loc (hk_35 x1 x2 x3 x4 w28 (x6 + (1 : Int32)) σ) [2, 3, 4, 5, 6, 1, 0] rfl
set_option maxRecDepth 100000 in
set_option maxHeartbeats 4000000 in
theorem w_X2_gainOunces_35 {α : Nat → Nat} {D : va_G} {cA : Nat → ClassId} {z : Cz} (C : CX shX α D cA z RX2 cX2_gainOunces 9 (some .int) 5 122) : ∀ (n : Nat) (x1 : Int32) (x2 : Int32) (x3 : Int32) (x4 : Int32) (x5 : Int32) (x6 : Int32) (σ : St), RX emI shX α D cA z 9 σ 35 [(0, .ref (α 6)), (1, .int x1), (2, .int x2), (3, .int x3), (4, .int x4), (5, .int x5), (6, .int x6)] [] (f_X2_gainOunces_35 n x1 x2 x3 x4 x5 x6 σ) := by
  intro n
  induction n with
  | zero => intros; exact rx_none
  | succ n hk_35 =>
    intro x1 x2 x3 x4 x5 x6 σ
    rw [f_X2_gainOunces_35.eq_2]
    refine rx_iload C 6 dX2_gainOunces_35 rfl ?_
    refine rx_iload C 4 dX2_gainOunces_37 rfl ?_
    refine rx_icmp_ge C (tgt := 114) dX2_gainOunces_39 (by decide) (fun _ => ?_) (fun _ => ?_)
    · refine rx_aload_n C 0 dX2_gainOunces_114 rfl rfl ?_
      refine rx_iload_n C 1 dX2_gainOunces_115 rfl rfl ?_
      refine rx_callVi C [.int x1] [] (m_X2_loadOf z.l C.inj x1 σ) mv_X2_loadOf lk_X2_149 sx_6 rfl rfl rfl (Nat.le_of_ble_eq_true rfl) ⟨Nat.le_of_ble_eq_true rfl, Nat.le_of_ble_eq_true rfl⟩ dX2_gainOunces_116 (fun q20 => ?_)
      refine rx_iload C 5 dX2_gainOunces_119 rfl ?_
      refine rx_iadd C dX2_gainOunces_121 ?_
      refine rx_aload_n C 0 dX2_gainOunces_122 rfl rfl ?_
      refine rx_iload_n C 1 dX2_gainOunces_123 rfl rfl ?_
      refine rx_callVi C [.int x1] [.int (q20.1 + x5)] (m_X2_limitOf z.l C.inj x1 q20.2) mv_X2_limitOf lk_X2_188 sx_6 rfl rfl rfl (Nat.le_of_ble_eq_true rfl) ⟨Nat.le_of_ble_eq_true rfl, Nat.le_of_ble_eq_true rfl⟩ dX2_gainOunces_124 (fun q21 => ?_)
      refine rx_icmp_gt C (tgt := 135) dX2_gainOunces_127 (by decide) (fun _ => ?_) (fun _ => ?_)
      · refine rx_iconst C dX2_gainOunces_135 ic_m1 ?_
        exact RX.loc (w_X2_gainOunces_136 C (-1 : Int32) q21.2) [] rfl
      · refine rx_iload C 5 dX2_gainOunces_130 rfl ?_
        refine rx_goto C (tgt := 136) dX2_gainOunces_132 (by decide) ?_
        exact RX.loc (w_X2_gainOunces_136 C x5 q21.2) [] rfl
    · refine rx_iload_n C 3 dX2_gainOunces_42 rfl rfl ?_
      refine rx_iload C 6 dX2_gainOunces_43 rfl ?_
      refine rx_callSi C [.int x3, .int x6] [] (m_X8_letterOf z.l C.inj x3 x6 σ) ms_X8_letterOf lk_X2_127 rfl rfl (Nat.le_of_ble_eq_true rfl) ⟨Nat.le_of_ble_eq_true rfl, Nat.le_of_ble_eq_true rfl⟩ dX2_gainOunces_45 (fun q22 => ?_)
      refine rx_istore C [(7, .int q22.1), (0, .ref (α 6)), (1, .int x1), (2, .int x2), (3, .int x3), (4, .int x4), (5, .int x5), (6, .int x6)] dX2_gainOunces_48 (by decide) rfl ?_
      refine rx_aload_n C 1 dX2_gainOunces_50 rfl rfl ?_
      refine rx_getR C (k := 0) sx_6 fc_X2 (by decide) rfl lk_X2_9 dX2_gainOunces_51 ?_
      refine rx_ltr (fun g23 => ?_)
      refine rx_if (fun hg23 => ?_) (fun _ => rx_none)
      refine rx_iload_n C 3 dX2_gainOunces_54 rfl rfl ?_
      refine rx_iload C 7 dX2_gainOunces_55 rfl ?_
      refine rx_callVi C [.int x2, .int x6] [] (m_X4_rankOf z.l C.inj g23 (landB_is hg23) x2 x6 q22.2) mv_X4_rankOf lk_X2_185 (ld_sh (landB_is hg23)) rfl rfl rfl (Nat.le_of_ble_eq_true rfl) ⟨Nat.le_of_ble_eq_true rfl, Nat.le_of_ble_eq_true rfl⟩ dX2_gainOunces_57 (fun q24 => ?_)
      refine rx_aload_n C 1 dX2_gainOunces_60 rfl rfl ?_
      refine rx_iload_n C 2 dX2_gainOunces_61 rfl rfl ?_
      refine rx_iload C 0 dX2_gainOunces_62 rfl ?_
      refine rx_callVi C [.int x1, .int q22.1] [.int q24.1] (m_X2_count z.l C.inj x1 q22.1 q24.2) mv_X2_count lk_X2_134 sx_6 rfl rfl rfl (Nat.le_of_ble_eq_true rfl) ⟨Nat.le_of_ble_eq_true rfl, Nat.le_of_ble_eq_true rfl⟩ dX2_gainOunces_64 (fun q25 => ?_)
      refine rx_isub C dX2_gainOunces_67 ?_
      refine rx_lti (fun w26 => ?_)
      refine rx_istore C [(8, .int w26), (7, .int q22.1), (0, .ref (α 6)), (1, .int x1), (2, .int x2), (3, .int x3), (4, .int x4), (5, .int x5), (6, .int x6)] dX2_gainOunces_68 (by decide) rfl ?_
      refine rx_iload C 0 dX2_gainOunces_70 rfl ?_
      refine rx_aload_n C 2 dX2_gainOunces_72 rfl rfl ?_
      refine rx_bipush C dX2_gainOunces_73 bp_8 ?_
      refine rx_iload C 1 dX2_gainOunces_75 rfl ?_
      refine rx_callVi C [.int (8 : Int32), .int q22.1] [.int w26] (m_X2_count z.l C.inj (8 : Int32) q22.1 q25.2) mv_X2_count lk_X2_134 sx_6 rfl rfl rfl (Nat.le_of_ble_eq_true rfl) ⟨Nat.le_of_ble_eq_true rfl, Nat.le_of_ble_eq_true rfl⟩ dX2_gainOunces_77 (fun q27 => ?_)
      refine rx_icmp_le C (tgt := 85) dX2_gainOunces_80 (by decide) (fun _ => ?_) (fun _ => ?_)
      · refine rx_iload C 7 dX2_gainOunces_85 rfl ?_
        refine rx_iload C 0 dX2_gainOunces_87 rfl ?_
        refine rx_if_le C (tgt := 104) dX2_gainOunces_89 (by decide) (fun _ => ?_) (fun _ => ?_)
        · refine rx_iconst C dX2_gainOunces_104 ic_0 ?_
          exact RX.loc (w_X2_gainOunces_105 C (f_X2_gainOunces_35 n) hk_35 x1 x2 x3 x4 x6 (0 : Int32) x5 q27.2) [2, 3, 4, 5, 6, 8] rfl
        · refine rx_aload_n C 2 dX2_gainOunces_92 rfl rfl ?_
          refine rx_getR C (k := 0) sx_6 fc_X2 (by decide) rfl lk_X2_9 dX2_gainOunces_93 ?_
          refine rx_ltr (fun g29 => ?_)
          refine rx_if (fun hg29 => ?_) (fun _ => rx_none)
          refine rx_iload C 1 dX2_gainOunces_96 rfl ?_
          refine rx_callVi C [.int q22.1] [.int x5] (m_X4_ouncesOf z.l C.inj g29 (landB_is hg29) q22.1 q27.2) mv_X4_ouncesOf lk_X2_137 (ld_sh (landB_is hg29)) rfl rfl rfl (Nat.le_of_ble_eq_true rfl) ⟨Nat.le_of_ble_eq_true rfl, Nat.le_of_ble_eq_true rfl⟩ dX2_gainOunces_98 (fun q30 => ?_)
          refine rx_goto C (tgt := 105) dX2_gainOunces_101 (by decide) ?_
          exact RX.loc (w_X2_gainOunces_105 C (f_X2_gainOunces_35 n) hk_35 x1 x2 x3 x4 x6 q30.1 x5 q30.2) [2, 3, 4, 5, 6, 8] rfl
      · refine rx_iconst C dX2_gainOunces_83 ic_m1 ?_
        exact rx_iret C dX2_gainOunces_84
set_option maxRecDepth 100000 in
set_option maxHeartbeats 4000000 in
theorem w_X2_gainOunces_e {α : Nat → Nat} {D : va_G} {cA : Nat → ClassId} {z : Cz} (C : CX shX α D cA z RX2 cX2_gainOunces 9 (some .int) 5 122) (x1 : Int32) (x2 : Int32) (σ : St) : RX emI shX α D cA z 9 σ 0 [(0, .ref (α 6)), (1, .int x1), (2, .int x2)] [] (f_X2_gainOunces x1 x2 σ) := by
  unfold f_X2_gainOunces
  refine rx_aload_n C 0 dX2_gainOunces_0 rfl rfl ?_
  refine rx_iload_n C 1 dX2_gainOunces_1 rfl rfl ?_
  refine rx_iload_n C 2 dX2_gainOunces_2 rfl rfl ?_
  refine rx_callVi C [.int x1, .int x2] [] (m_X2_lacks z.l C.inj x1 x2 σ) mv_X2_lacks lk_X2_106 sx_6 rfl rfl rfl (Nat.le_of_ble_eq_true rfl) ⟨Nat.le_of_ble_eq_true rfl, Nat.le_of_ble_eq_true rfl⟩ dX2_gainOunces_3 (fun q16 => ?_)
  refine rx_if_ne C (tgt := 11) dX2_gainOunces_6 (by decide) (fun _ => ?_) (fun _ => ?_)
  · refine rx_iconst C dX2_gainOunces_9 ic_m1 ?_
    exact rx_iret C dX2_gainOunces_10
  · refine rx_aload_n C 0 dX2_gainOunces_11 rfl rfl ?_
    refine rx_getR C (k := 0) sx_6 fc_X2 (by decide) rfl lk_X2_9 dX2_gainOunces_12 ?_
    refine rx_ltr (fun g17 => ?_)
    refine rx_if (fun hg17 => ?_) (fun _ => rx_none)
    refine rx_getC C (k := 1) (ld_sh (landB_is hg17)) fc_X4 (by decide) (g17 + 4) rfl lk_X2_97 dX2_gainOunces_15 ?_
    refine rx_iload_n C 2 dX2_gainOunces_18 rfl rfl ?_
    refine rx_callVi C [.int x2] [] (m_X8_name z.l C.inj (g17 + 4) (ld_4 (landB_is hg17)) x2 q16.2) mv_X8_name lk_X2_120 (ro_sh (ld_4 (landB_is hg17))) rfl rfl rfl (Nat.le_of_ble_eq_true rfl) ⟨Nat.le_of_ble_eq_true rfl, Nat.le_of_ble_eq_true rfl⟩ dX2_gainOunces_19 (fun q18 => ?_)
    refine rx_istore_n C [(3, .int q18.1), (0, .ref (α 6)), (1, .int x1), (2, .int x2)] dX2_gainOunces_22 rfl (by decide) rfl ?_
    refine rx_iload_n C 0 dX2_gainOunces_23 rfl rfl ?_
    refine rx_callSi C [.int q18.1] [] (m_X8_lengthOf z.l C.inj q18.1 q18.2) ms_X8_lengthOf lk_X2_124 rfl rfl (Nat.le_of_ble_eq_true rfl) ⟨Nat.le_of_ble_eq_true rfl, Nat.le_of_ble_eq_true rfl⟩ dX2_gainOunces_24 (fun q19 => ?_)
    refine rx_istore C [(4, .int q19.1), (3, .int q18.1), (0, .ref (α 6)), (1, .int x1), (2, .int x2)] dX2_gainOunces_27 (by decide) rfl ?_
    refine rx_iconst C dX2_gainOunces_29 ic_0 ?_
    refine rx_istore C [(5, .int (0 : Int32)), (4, .int q19.1), (3, .int q18.1), (0, .ref (α 6)), (1, .int x1), (2, .int x2)] dX2_gainOunces_30 (by decide) rfl ?_
    refine rx_iconst C dX2_gainOunces_32 ic_0 ?_
    refine rx_istore C [(6, .int (0 : Int32)), (5, .int (0 : Int32)), (4, .int q19.1), (3, .int q18.1), (0, .ref (α 6)), (1, .int x1), (2, .int x2)] dX2_gainOunces_33 (by decide) rfl ?_
    exact RX.loc (w_X2_gainOunces_35 C FU x1 x2 q18.1 q19.1 (0 : Int32) (0 : Int32) q19.2) [4, 5, 6, 3, 2, 1, 0] rfl
theorem m_X2_gainOunces (l : Launch) {α : Nat → Nat} {D : va_G} {cA : Nat → ClassId} (hin : inj shX.length α) (x1 : Int32) (x2 : Int32) (σ : St) : CT shX l yX2_gainOunces cX2_gainOunces 9 (some .int) 5 122 emI α D cA [.ref (α 6), .int x1, .int x2] σ (f_X2_gainOunces x1 x2 σ) := ct_of rfl (Nat.le_of_ble_eq_true rfl) hin (fun z _ C => w_X2_gainOunces_e C x1 x2 σ)
