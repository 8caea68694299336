set_option maxRecDepth 100000 in
set_option maxHeartbeats 4000000 in
theorem w_X11_is_15 {α : Nat → Nat} {D : va_G} {cA : Nat → ClassId} {z : Cz} (C : CX shM α D cA z RX11 cX11_is 3 (some .boolean) 0 0) (s0 : Int32) (σ : St) : RX emI shM α D cA z 3 σ 15 [] [.int s0] (f_X11_is_15 s0 σ) := by
  unfold f_X11_is_15
  exact rx_zret C dX11_is_15
set_option maxRecDepth 100000 in
set_option maxHeartbeats 4000000 in
theorem w_X11_is_14 {α : Nat → Nat} {D : va_G} {cA : Nat → ClassId} {z : Cz} (C : CX shM α D cA z RX11 cX11_is 3 (some .boolean) 0 0) (σ : St) : RX emI shM α D cA z 3 σ 14 [] [] (f_X11_is_14 σ) := by
  unfold f_X11_is_14
  refine rx_iconst C dX11_is_14 ic_0 ?_
  exact RX.loc (w_X11_is_15 C (0 : Int32) σ) [] rfl
set_option maxRecDepth 100000 in
set_option maxHeartbeats 4000000 in
theorem w_X11_is_e {α : Nat → Nat} {D : va_G} {cA : Nat → ClassId} {z : Cz} (C : CX shM α D cA z RX11 cX11_is 3 (some .boolean) 0 0) (x0 : Int32) (x1 : Int32) (x2 : Int32) (σ : St) : RX emI shM α D cA z 3 σ 0 [(0, .int x0), (1, .int x1), (2, .int x2)] [] (f_X11_is x0 x1 x2 σ) := by
  unfold f_X11_is
  refine rx_iload_n C 0 dX11_is_0 rfl rfl ?_
  refine rx_iload_n C 1 dX11_is_1 rfl rfl ?_
  refine rx_icmp_lt C (tgt := 14) dX11_is_2 (by decide) (fun _ => ?_) (fun _ => ?_)
  · exact RX.loc (w_X11_is_14 C σ) [] rfl
  · refine rx_iload_n C 0 dX11_is_5 rfl rfl ?_
    refine rx_iload_n C 2 dX11_is_6 rfl rfl ?_
    refine rx_icmp_gt C (tgt := 14) dX11_is_7 (by decide) (fun _ => ?_) (fun _ => ?_)
    · exact RX.loc (w_X11_is_14 C σ) [] rfl
    · refine rx_iconst C dX11_is_10 ic_1 ?_
      refine rx_goto C (tgt := 15) dX11_is_11 (by decide) ?_
      exact RX.loc (w_X11_is_15 C (1 : Int32) σ) [] rfl
theorem m_X11_is (l : Launch) {α : Nat → Nat} {D : va_G} {cA : Nat → ClassId} (hin : inj shM.length α) (x0 : Int32) (x1 : Int32) (x2 : Int32) (σ : St) : CT shM l yX11_is cX11_is 3 (some .boolean) 0 0 emI α D cA [.int x0, .int x1, .int x2] σ (f_X11_is x0 x1 x2 σ) := ct_of rfl (Nat.le_of_ble_eq_true rfl) hin (fun z _ C => w_X11_is_e C x0 x1 x2 σ)
set_option maxRecDepth 100000 in
set_option maxHeartbeats 4000000 in
theorem w_X11_put_3 {α : Nat → Nat} {D : va_G} {cA : Nat → ClassId} {z : Cz} (C : CX shM α D cA z RX11 cX11_put 3 none 0 0) : ∀ (n : Nat) (x1 : Int32) (x2 : Int32) (σ : St), RX emV shM α D cA z 3 σ 3 [(0, .ref (α 0)), (1, .int x1), (2, .int x2)] [] (f_X11_put_3 n x1 x2 σ) := by
  intro n
  induction n with
  | zero => intros; exact rx_none
  | succ n hk_3 =>
    intro x1 x2 σ
    rw [f_X11_put_3.eq_2]
    refine rx_iload_n C 2 dX11_put_3 rfl rfl ?_
    refine rx_if_lt C (tgt := 39) dX11_put_4 (by decide) (fun _ => ?_) (fun _ => ?_)
    · exact rx_vret C dX11_put_39
    · refine rx_aload_n C 0 dX11_put_7 rfl rfl ?_
      refine rx_getC C (k := 0) sm_0 fc_X11 (by decide) 1 rfl lk_X11_7 dX11_put_8 ?_
      refine rx_aload_n C 0 dX11_put_11 rfl rfl ?_
      refine rx_getI C (k := 1) sm_0 fc_X11 (by decide) rfl lk_X11_13 dX11_put_12 ?_
      refine rx_iload_n C 1 dX11_put_15 rfl rfl ?_
      refine rx_iload_n C 2 dX11_put_16 rfl rfl ?_
      refine rx_ishr C dX11_put_17 ?_
      refine rx_sipush C dX11_put_18 sp_255 ?_
      refine rx_iand C dX11_put_21 ?_
      refine rx_iast C (n := 1800) sm_1 dX11_put_22 (fun _ => ?_)
      refine rx_lts (fun σ3 => ?_)
      refine rx_aload_n C 0 dX11_put_23 rfl rfl ?_
      refine rx_dup C dX11_put_24 rfl ?_
      refine rx_getI C (k := 1) sm_0 fc_X11 (by decide) rfl lk_X11_13 dX11_put_25 ?_
      refine rx_iconst C dX11_put_28 ic_1 ?_
      refine rx_iadd C dX11_put_29 ?_
      refine rx_putI C (k := 1) sm_0 fc_X11 (by decide) rfl lk_X11_13 rfl ⟨rfl, rfl⟩ dX11_put_30 ?_
      refine rx_lts (fun σ4 => ?_)
      refine rx_iinc C (k0 := 2) (v := x2 + (-8 : Int32)) [(2, .int (x2 + (-8 : Int32))), (0, .ref (α 0)), (1, .int x1)] dX11_put_33 rfl (congrArg _ ic_m8) (by decide) rfl ?_
      refine rx_goto C (tgt := 3) dX11_put_36 (by decide) ?_
      exact RX.loc (hk_3 x1 (x2 + (-8 : Int32)) σ4) [1, 2, 0] rfl
set_option maxRecDepth 100000 in
set_option maxHeartbeats 4000000 in
theorem w_X11_put_e {α : Nat → Nat} {D : va_G} {cA : Nat → ClassId} {z : Cz} (C : CX shM α D cA z RX11 cX11_put 3 none 0 0) (x1 : Int32) (σ : St) : RX emV shM α D cA z 3 σ 0 [(0, .ref (α 0)), (1, .int x1)] [] (f_X11_put x1 σ) := by
  unfold f_X11_put
  refine rx_bipush C dX11_put_0 bp_24 ?_
  refine rx_istore_n C [(2, .int (24 : Int32)), (0, .ref (α 0)), (1, .int x1)] dX11_put_2 rfl (by decide) rfl ?_
  exact RX.loc (w_X11_put_3 C FU x1 (24 : Int32) σ) [1, 2, 0] rfl
theorem m_X11_put (l : Launch) {α : Nat → Nat} {D : va_G} {cA : Nat → ClassId} (hin : inj shM.length α) (x1 : Int32) (σ : St) : CT shM l yX11_put cX11_put 3 none 0 0 emV α D cA [.ref (α 0), .int x1] σ (f_X11_put x1 σ) := ct_of rfl (Nat.le_of_ble_eq_true rfl) hin (fun z _ C => w_X11_put_e C x1 σ)
set_option maxRecDepth 100000 in
set_option maxHeartbeats 4000000 in
theorem w_X11_refuses_e {α : Nat → Nat} {D : va_G} {cA : Nat → ClassId} {z : Cz} (C : CX shM α D cA z RX11 cX11_refuses 2 (some .int) 0 0) (x1 : Int32) (σ : St) : RX emI shM α D cA z 2 σ 0 [(0, .ref (α 0)), (1, .int x1)] [] (f_X11_refuses x1 σ) := by
  unfold f_X11_refuses
  refine rx_aload_n C 0 dX11_refuses_0 rfl rfl ?_
  refine rx_getC C (k := 49) sm_0 fc_X11 (by decide) 32 rfl lk_X11_162 dX11_refuses_1 ?_
  refine rx_iload_n C 1 dX11_refuses_4 rfl rfl ?_
  refine rx_dup2 C dX11_refuses_5 rfl rfl ?_
  refine rx_iald C (n := 6) sm_32 dX11_refuses_6 (fun _ => ?_)
  refine rx_iconst C dX11_refuses_7 ic_1 ?_
  refine rx_iadd C dX11_refuses_8 ?_
  refine rx_iast C (n := 6) sm_32 dX11_refuses_9 (fun _ => ?_)
  refine rx_lts (fun σ2 => ?_)
  refine rx_iconst C dX11_refuses_10 ic_m1 ?_
  exact rx_iret C dX11_refuses_11
theorem m_X11_refuses (l : Launch) {α : Nat → Nat} {D : va_G} {cA : Nat → ClassId} (hin : inj shM.length α) (x1 : Int32) (σ : St) : CT shM l yX11_refuses cX11_refuses 2 (some .int) 0 0 emI α D cA [.ref (α 0), .int x1] σ (f_X11_refuses x1 σ) := ct_of rfl (Nat.le_of_ble_eq_true rfl) hin (fun z _ C => w_X11_refuses_e C x1 σ)
set_option maxRecDepth 100000 in
set_option maxHeartbeats 4000000 in
theorem w_X11_feed_e {α : Nat → Nat} {D : va_G} {cA : Nat → ClassId} {z : Cz} (C : CX shM α D cA z RX11 cX11_feed 6 (some .int) 1 22) (x1 : Int32) (x2 : Int32) (x3 : Int32) (x4 : Int32) (x5 : Int32) (σ : St) : RX emI shM α D cA z 6 σ 0 [(0, .ref (α 0)), (1, .int x1), (2, .int x2), (3, .int x3), (4, .int x4), (5, .int x5)] [] (f_X11_feed x1 x2 x3 x4 x5 σ) := by
  unfold f_X11_feed
  refine rx_aload_n C 0 dX11_feed_0 rfl rfl ?_
  refine rx_getI C (k := 1) sm_0 fc_X11 (by decide) rfl lk_X11_13 dX11_feed_1 ?_
  refine rx_bipush C dX11_feed_4 bp_20 ?_
  refine rx_iadd C dX11_feed_6 ?_
  refine rx_sipush C dX11_feed_7 sp_1600 ?_
  refine rx_icmp_le C (tgt := 19) dX11_feed_10 (by decide) (fun _ => ?_) (fun _ => ?_)
  · refine rx_aload_n C 0 dX11_feed_19 rfl rfl ?_
    refine rx_iload_n C 1 dX11_feed_20 rfl rfl ?_
    refine rx_callVv C [.int x1] [] (m_X11_put z.l C.inj x1 σ) mv_X11_put lk_X11_238 sm_0 rfl rfl rfl (Nat.le_of_ble_eq_true rfl) ⟨Nat.le_of_ble_eq_true rfl, Nat.le_of_ble_eq_true rfl⟩ dX11_feed_21 (fun q7 => ?_)
    refine rx_aload_n C 0 dX11_feed_24 rfl rfl ?_
    refine rx_iload_n C 2 dX11_feed_25 rfl rfl ?_
    refine rx_callVv C [.int x2] [] (m_X11_put z.l C.inj x2 q7.2) mv_X11_put lk_X11_238 sm_0 rfl rfl rfl (Nat.le_of_ble_eq_true rfl) ⟨Nat.le_of_ble_eq_true rfl, Nat.le_of_ble_eq_true rfl⟩ dX11_feed_26 (fun q8 => ?_)
    refine rx_aload_n C 0 dX11_feed_29 rfl rfl ?_
    refine rx_iload_n C 3 dX11_feed_30 rfl rfl ?_
    refine rx_callVv C [.int x3] [] (m_X11_put z.l C.inj x3 q8.2) mv_X11_put lk_X11_238 sm_0 rfl rfl rfl (Nat.le_of_ble_eq_true rfl) ⟨Nat.le_of_ble_eq_true rfl, Nat.le_of_ble_eq_true rfl⟩ dX11_feed_31 (fun q9 => ?_)
    refine rx_aload_n C 0 dX11_feed_34 rfl rfl ?_
    refine rx_iload C 4 dX11_feed_35 rfl ?_
    refine rx_callVv C [.int x4] [] (m_X11_put z.l C.inj x4 q9.2) mv_X11_put lk_X11_238 sm_0 rfl rfl rfl (Nat.le_of_ble_eq_true rfl) ⟨Nat.le_of_ble_eq_true rfl, Nat.le_of_ble_eq_true rfl⟩ dX11_feed_37 (fun q10 => ?_)
    refine rx_aload_n C 0 dX11_feed_40 rfl rfl ?_
    refine rx_iload C 5 dX11_feed_41 rfl ?_
    refine rx_callVv C [.int x5] [] (m_X11_put z.l C.inj x5 q10.2) mv_X11_put lk_X11_238 sm_0 rfl rfl rfl (Nat.le_of_ble_eq_true rfl) ⟨Nat.le_of_ble_eq_true rfl, Nat.le_of_ble_eq_true rfl⟩ dX11_feed_43 (fun q11 => ?_)
    refine rx_aload_n C 0 dX11_feed_46 rfl rfl ?_
    refine rx_getI C (k := 1) sm_0 fc_X11 (by decide) rfl lk_X11_13 dX11_feed_47 ?_
    exact rx_iret C dX11_feed_50
  · refine rx_aload_n C 0 dX11_feed_13 rfl rfl ?_
    refine rx_iconst C dX11_feed_14 ic_0 ?_
    refine rx_callVi C [.int (0 : Int32)] [] (m_X11_refuses z.l C.inj (0 : Int32) σ) mv_X11_refuses lk_X11_234 sm_0 rfl rfl rfl (Nat.le_of_ble_eq_true rfl) ⟨Nat.le_of_ble_eq_true rfl, Nat.le_of_ble_eq_true rfl⟩ dX11_feed_15 (fun q12 => ?_)
    exact rx_iret C dX11_feed_18
theorem m_X11_feed (l : Launch) {α : Nat → Nat} {D : va_G} {cA : Nat → ClassId} (hin : inj shM.length α) (x1 : Int32) (x2 : Int32) (x3 : Int32) (x4 : Int32) (x5 : Int32) (σ : St) : CT shM l yX11_feed cX11_feed 6 (some .int) 1 22 emI α D cA [.ref (α 0), .int x1, .int x2, .int x3, .int x4, .int x5] σ (f_X11_feed x1 x2 x3 x4 x5 σ) := ct_of rfl (Nat.le_of_ble_eq_true rfl) hin (fun z _ C => w_X11_feed_e C x1 x2 x3 x4 x5 σ)
set_option maxRecDepth 100000 in
set_option maxHeartbeats 4000000 in
theorem w_X11_end_25 {α : Nat → Nat} {D : va_G} {cA : Nat → ClassId} {z : Cz} (C : CX shM α D cA z RX11 cX11_end 2 (some .boolean) 1 21) (s0 : Int32) (σ : St) : RX emI shM α D cA z 2 σ 25 [] [.int s0] (f_X11_end_25 s0 σ) := by
  unfold f_X11_end_25
  exact rx_zret C dX11_end_25
set_option maxRecDepth 100000 in
set_option maxHeartbeats 4000000 in
theorem w_X11_end_12 {α : Nat → Nat} {D : va_G} {cA : Nat → ClassId} {z : Cz} (C : CX shM α D cA z RX11 cX11_end 2 (some .boolean) 1 21) (σ : St) : RX emI shM α D cA z 2 σ 12 [(0, .ref (α 0))] [] (f_X11_end_12 σ) := by
  unfold f_X11_end_12
  refine rx_aload_n C 0 dX11_end_12 rfl rfl ?_
  refine rx_iconst C dX11_end_13 ic_0 ?_
  refine rx_callVi C [.int (0 : Int32)] [] (m_X11_refuses z.l C.inj (0 : Int32) σ) mv_X11_refuses lk_X11_234 sm_0 rfl rfl rfl (Nat.le_of_ble_eq_true rfl) ⟨Nat.le_of_ble_eq_true rfl, Nat.le_of_ble_eq_true rfl⟩ dX11_end_14 (fun q3 => ?_)
  refine rx_if_lt C (tgt := 24) dX11_end_17 (by decide) (fun _ => ?_) (fun _ => ?_)
  · refine rx_iconst C dX11_end_24 ic_0 ?_
    exact RX.loc (w_X11_end_25 C (0 : Int32) q3.2) [] rfl
  · refine rx_iconst C dX11_end_20 ic_1 ?_
    refine rx_goto C (tgt := 25) dX11_end_21 (by decide) ?_
    exact RX.loc (w_X11_end_25 C (1 : Int32) q3.2) [] rfl
set_option maxRecDepth 100000 in
set_option maxHeartbeats 4000000 in
theorem w_X11_end_e {α : Nat → Nat} {D : va_G} {cA : Nat → ClassId} {z : Cz} (C : CX shM α D cA z RX11 cX11_end 2 (some .boolean) 1 21) (x1 : Int32) (σ : St) : RX emI shM α D cA z 2 σ 0 [(0, .ref (α 0)), (1, .int x1)] [] (f_X11_end x1 σ) := by
  unfold f_X11_end
  refine rx_iload_n C 1 dX11_end_0 rfl rfl ?_
  refine rx_if_lt C (tgt := 12) dX11_end_1 (by decide) (fun _ => ?_) (fun _ => ?_)
  · exact RX.loc (w_X11_end_12 C σ) [0] rfl
  · refine rx_iload_n C 1 dX11_end_4 rfl rfl ?_
    refine rx_aload_n C 0 dX11_end_5 rfl rfl ?_
    refine rx_getI C (k := 1) sm_0 fc_X11 (by decide) rfl lk_X11_13 dX11_end_6 ?_
    refine rx_icmp_le C (tgt := 26) dX11_end_9 (by decide) (fun _ => ?_) (fun _ => ?_)
    · refine rx_aload_n C 0 dX11_end_26 rfl rfl ?_
      refine rx_iload_n C 1 dX11_end_27 rfl rfl ?_
      refine rx_putI C (k := 1) sm_0 fc_X11 (by decide) rfl lk_X11_13 rfl ⟨rfl, rfl⟩ dX11_end_28 ?_
      refine rx_lts (fun σ4 => ?_)
      refine rx_iconst C dX11_end_31 ic_1 ?_
      exact rx_zretC C dX11_end_32 rfl
    · exact RX.loc (w_X11_end_12 C σ) [0] rfl
theorem m_X11_end (l : Launch) {α : Nat → Nat} {D : va_G} {cA : Nat → ClassId} (hin : inj shM.length α) (x1 : Int32) (σ : St) : CT shM l yX11_end cX11_end 2 (some .boolean) 1 21 emI α D cA [.ref (α 0), .int x1] σ (f_X11_end x1 σ) := ct_of rfl (Nat.le_of_ble_eq_true rfl) hin (fun z _ C => w_X11_end_e C x1 σ)
set_option maxRecDepth 100000 in
set_option maxHeartbeats 4000000 in
theorem w_X11_blame_e {α : Nat → Nat} {D : va_G} {cA : Nat → ClassId} {z : Cz} (C : CX shM α D cA z RX11 cX11_blame 3 none 0 0) (x1 : Int32) (x2 : Int32) (σ : St) : RX emV shM α D cA z 3 σ 0 [(0, .ref (α 0)), (1, .int x1), (2, .int x2)] [] (f_X11_blame x1 x2 σ) := by
  unfold f_X11_blame
  refine rx_aload_n C 0 dX11_blame_0 rfl rfl ?_
  refine rx_getI C (k := 8) sm_0 fc_X11 (by decide) rfl lk_X11_36 dX11_blame_1 ?_
  refine rx_if_le C (tgt := 8) dX11_blame_4 (by decide) (fun _ => ?_) (fun _ => ?_)
  · refine rx_aload_n C 0 dX11_blame_8 rfl rfl ?_
    refine rx_iload_n C 1 dX11_blame_9 rfl rfl ?_
    refine rx_putI C (k := 8) sm_0 fc_X11 (by decide) rfl lk_X11_36 rfl ⟨rfl, rfl⟩ dX11_blame_10 ?_
    refine rx_lts (fun σ3 => ?_)
    refine rx_aload_n C 0 dX11_blame_13 rfl rfl ?_
    refine rx_iload_n C 2 dX11_blame_14 rfl rfl ?_
    refine rx_putI C (k := 9) sm_0 fc_X11 (by decide) rfl lk_X11_39 rfl ⟨rfl, rfl⟩ dX11_blame_15 ?_
    refine rx_lts (fun σ4 => ?_)
    exact rx_vret C dX11_blame_18
  · exact rx_vret C dX11_blame_7
theorem m_X11_blame (l : Launch) {α : Nat → Nat} {D : va_G} {cA : Nat → ClassId} (hin : inj shM.length α) (x1 : Int32) (x2 : Int32) (σ : St) : CT shM l yX11_blame cX11_blame 3 none 0 0 emV α D cA [.ref (α 0), .int x1, .int x2] σ (f_X11_blame x1 x2 σ) := ct_of rfl (Nat.le_of_ble_eq_true rfl) hin (fun z _ C => w_X11_blame_e C x1 x2 σ)
set_option maxRecDepth 100000 in
set_option maxHeartbeats 4000000 in
theorem w_X11_isLetter_17 {α : Nat → Nat} {D : va_G} {cA : Nat → ClassId} {z : Cz} (C : CX shM α D cA z RX11 cX11_isLetter 1 (some .boolean) 0 0) (s0 : Int32) (σ : St) : RX emI shM α D cA z 1 σ 17 [] [.int s0] (f_X11_isLetter_17 s0 σ) := by
  unfold f_X11_isLetter_17
  exact rx_zret C dX11_isLetter_17
set_option maxRecDepth 100000 in
set_option maxHeartbeats 4000000 in
theorem w_X11_isLetter_16 {α : Nat → Nat} {D : va_G} {cA : Nat → ClassId} {z : Cz} (C : CX shM α D cA z RX11 cX11_isLetter 1 (some .boolean) 0 0) (σ : St) : RX emI shM α D cA z 1 σ 16 [] [] (f_X11_isLetter_16 σ) := by
  unfold f_X11_isLetter_16
  refine rx_iconst C dX11_isLetter_16 ic_0 ?_
  exact RX.loc (w_X11_isLetter_17 C (0 : Int32) σ) [] rfl
set_option maxRecDepth 100000 in
set_option maxHeartbeats 4000000 in
theorem w_X11_isLetter_e {α : Nat → Nat} {D : va_G} {cA : Nat → ClassId} {z : Cz} (C : CX shM α D cA z RX11 cX11_isLetter 1 (some .boolean) 0 0) (x0 : Int32) (σ : St) : RX emI shM α D cA z 1 σ 0 [(0, .int x0)] [] (f_X11_isLetter x0 σ) := by
  unfold f_X11_isLetter
  refine rx_iload_n C 0 dX11_isLetter_0 rfl rfl ?_
  refine rx_bipush C dX11_isLetter_1 bp_97 ?_
  refine rx_icmp_lt C (tgt := 16) dX11_isLetter_3 (by decide) (fun _ => ?_) (fun _ => ?_)
  · exact RX.loc (w_X11_isLetter_16 C σ) [] rfl
  · refine rx_iload_n C 0 dX11_isLetter_6 rfl rfl ?_
    refine rx_bipush C dX11_isLetter_7 bp_122 ?_
    refine rx_icmp_gt C (tgt := 16) dX11_isLetter_9 (by decide) (fun _ => ?_) (fun _ => ?_)
    · exact RX.loc (w_X11_isLetter_16 C σ) [] rfl
    · refine rx_iconst C dX11_isLetter_12 ic_1 ?_
      refine rx_goto C (tgt := 17) dX11_isLetter_13 (by decide) ?_
      exact RX.loc (w_X11_isLetter_17 C (1 : Int32) σ) [] rfl
theorem m_X11_isLetter (l : Launch) {α : Nat → Nat} {D : va_G} {cA : Nat → ClassId} (hin : inj shM.length α) (x0 : Int32) (σ : St) : CT shM l yX11_isLetter cX11_isLetter 1 (some .boolean) 0 0 emI α D cA [.int x0] σ (f_X11_isLetter x0 σ) := ct_of rfl (Nat.le_of_ble_eq_true rfl) hin (fun z _ C => w_X11_isLetter_e C x0 σ)
set_option maxRecDepth 100000 in
set_option maxHeartbeats 4000000 in
theorem w_X11_isDigit_17 {α : Nat → Nat} {D : va_G} {cA : Nat → ClassId} {z : Cz} (C : CX shM α D cA z RX11 cX11_isDigit 1 (some .boolean) 0 0) (s0 : Int32) (σ : St) : RX emI shM α D cA z 1 σ 17 [] [.int s0] (f_X11_isDigit_17 s0 σ) := by
  unfold f_X11_isDigit_17
  exact rx_zret C dX11_isDigit_17
set_option maxRecDepth 100000 in
set_option maxHeartbeats 4000000 in
theorem w_X11_isDigit_16 {α : Nat → Nat} {D : va_G} {cA : Nat → ClassId} {z : Cz} (C : CX shM α D cA z RX11 cX11_isDigit 1 (some .boolean) 0 0) (σ : St) : RX emI shM α D cA z 1 σ 16 [] [] (f_X11_isDigit_16 σ) := by
  unfold f_X11_isDigit_16
  refine rx_iconst C dX11_isDigit_16 ic_0 ?_
  exact RX.loc (w_X11_isDigit_17 C (0 : Int32) σ) [] rfl
set_option maxRecDepth 100000 in
set_option maxHeartbeats 4000000 in
theorem w_X11_isDigit_e {α : Nat → Nat} {D : va_G} {cA : Nat → ClassId} {z : Cz} (C : CX shM α D cA z RX11 cX11_isDigit 1 (some .boolean) 0 0) (x0 : Int32) (σ : St) : RX emI shM α D cA z 1 σ 0 [(0, .int x0)] [] (f_X11_isDigit x0 σ) := by
  unfold f_X11_isDigit
  refine rx_iload_n C 0 dX11_isDigit_0 rfl rfl ?_
  refine rx_bipush C dX11_isDigit_1 bp_48 ?_
  refine rx_icmp_lt C (tgt := 16) dX11_isDigit_3 (by decide) (fun _ => ?_) (fun _ => ?_)
  · exact RX.loc (w_X11_isDigit_16 C σ) [] rfl
  · refine rx_iload_n C 0 dX11_isDigit_6 rfl rfl ?_
    refine rx_bipush C dX11_isDigit_7 bp_57 ?_
    refine rx_icmp_gt C (tgt := 16) dX11_isDigit_9 (by decide) (fun _ => ?_) (fun _ => ?_)
    · exact RX.loc (w_X11_isDigit_16 C σ) [] rfl
    · refine rx_iconst C dX11_isDigit_12 ic_1 ?_
      refine rx_goto C (tgt := 17) dX11_isDigit_13 (by decide) ?_
      exact RX.loc (w_X11_isDigit_17 C (1 : Int32) σ) [] rfl
theorem m_X11_isDigit (l : Launch) {α : Nat → Nat} {D : va_G} {cA : Nat → ClassId} (hin : inj shM.length α) (x0 : Int32) (σ : St) : CT shM l yX11_isDigit cX11_isDigit 1 (some .boolean) 0 0 emI α D cA [.int x0] σ (f_X11_isDigit x0 σ) := ct_of rfl (Nat.le_of_ble_eq_true rfl) hin (fun z _ C => w_X11_isDigit_e C x0 σ)
set_option maxRecDepth 100000 in
set_option maxHeartbeats 4000000 in
theorem w_X11_ahead_323 {α : Nat → Nat} {D : va_G} {cA : Nat → ClassId} {z : Cz} (C : CX shM α D cA z RX11 cX11_ahead 6 none 1 22) (x1 : Int32) (σ : St) : RX emV shM α D cA z 6 σ 323 [(0, .ref (α 0)), (1, .int x1)] [] (f_X11_ahead_323 x1 σ) := by
  unfold f_X11_ahead_323
  refine rx_aload_n C 0 dX11_ahead_323 rfl rfl ?_
  refine rx_iload_n C 1 dX11_ahead_324 rfl rfl ?_
  refine rx_putI C (k := 5) sm_0 fc_X11 (by decide) rfl lk_X11_26 rfl ⟨rfl, rfl⟩ dX11_ahead_325 ?_
  refine rx_lts (fun σ34 => ?_)
  exact rx_vret C dX11_ahead_328
set_option maxRecDepth 100000 in
set_option maxHeartbeats 4000000 in
theorem w_X11_ahead_314 {α : Nat → Nat} {D : va_G} {cA : Nat → ClassId} {z : Cz} (C : CX shM α D cA z RX11 cX11_ahead 6 none 1 22) (k_200 : Int32 → Int32 → Int32 → Int32 → Int32 → St → Option (Unit × St)) (hk_200 : ∀ (x1 : Int32) (x2 : Int32) (x3 : Int32) (x4 : Int32) (x5 : Int32) (σ : St), RX emV shM α D cA z 6 σ 200 [(0, .ref (α 0)), (1, .int x1), (2, .int x2), (3, .int x3), (4, .int x4), (5, .int x5)] [] (k_200 x1 x2 x3 x4 x5 σ)) (x1 : Int32) (x2 : Int32) (x3 : Int32) (x4 : Int32) (x5 : Int32) (σ : St) : RX emV shM α D cA z 6 σ 314 [(0, .ref (α 0)), (1, .int x1), (2, .int x2), (3, .int x3), (4, .int x4), (5, .int x5)] [] (f_X11_ahead_314 k_200 x1 x2 x3 x4 x5 σ) := by
  unfold f_X11_ahead_314
  refine rx_iinc C (k0 := 5) (v := x5 + (1 : Int32)) [(5, .int (x5 + (1 : Int32))), (0, .ref (α 0)), (1, .int x1), (2, .int x2), (3, .int x3), (4, .int x4)] dX11_ahead_314 rfl (congrArg _ ic_1) (by decide) rfl ?_
  refine rx_iinc C (k0 := 2) (v := x1 + (1 : Int32)) [(1, .int (x1 + (1 : Int32))), (5, .int (x5 + (1 : Int32))), (0, .ref (α 0)), (2, .int x2), (3, .int x3), (4, .int x4)] dX11_ahead_317 rfl (congrArg _ ic_1) (by decide) rfl ?_
  refine rx_goto C (tgt := 200) dX11_ahead_320 (by decide) ?_
  exact RX.loc (hk_200 (x1 + (1 : Int32)) x2 x3 x4 (x5 + (1 : Int32)) σ) [2, 0, 3, 4, 5, 1] rfl
set_option maxRecDepth 100000 in
set_option maxHeartbeats 4000000 in
theorem w_X11_ahead_282 {α : Nat → Nat} {D : va_G} {cA : Nat → ClassId} {z : Cz} (C : CX shM α D cA z RX11 cX11_ahead 6 none 1 22) (k_200 : Int32 → Int32 → Int32 → Int32 → Int32 → St → Option (Unit × St)) (hk_200 : ∀ (x1 : Int32) (x2 : Int32) (x3 : Int32) (x4 : Int32) (x5 : Int32) (σ : St), RX emV shM α D cA z 6 σ 200 [(0, .ref (α 0)), (1, .int x1), (2, .int x2), (3, .int x3), (4, .int x4), (5, .int x5)] [] (k_200 x1 x2 x3 x4 x5 σ)) (x1 : Int32) (x2 : Int32) (x3 : Int32) (x4 : Int32) (x5 : Int32) (σ : St) : RX emV shM α D cA z 6 σ 282 [(0, .ref (α 0)), (1, .int x1), (2, .int x2), (3, .int x3), (4, .int x4), (5, .int x5)] [] (f_X11_ahead_282 k_200 x1 x2 x3 x4 x5 σ) := by
  unfold f_X11_ahead_282
  refine rx_iload C 5 dX11_ahead_282 rfl ?_
  refine rx_iload C 4 dX11_ahead_284 rfl ?_
  refine rx_icmp_ge C (tgt := 314) dX11_ahead_286 (by decide) (fun _ => ?_) (fun _ => ?_)
  · exact RX.loc (w_X11_ahead_314 C k_200 hk_200 x1 x2 x3 x4 x5 σ) [0, 1, 2, 3, 4, 5] rfl
  · refine rx_iload_n C 3 dX11_ahead_289 rfl rfl ?_
    refine rx_if_eq C (tgt := 314) dX11_ahead_290 (by decide) (fun _ => ?_) (fun _ => ?_)
    · exact RX.loc (w_X11_ahead_314 C k_200 hk_200 x1 x2 x3 x4 x5 σ) [0, 1, 2, 3, 4, 5] rfl
    · refine rx_aload_n C 0 dX11_ahead_293 rfl rfl ?_
      refine rx_bipush C dX11_ahead_294 bp_10 ?_
      refine rx_aload_n C 0 dX11_ahead_296 rfl rfl ?_
      refine rx_getI C (k := 6) sm_0 fc_X11 (by decide) rfl lk_X11_29 dX11_ahead_297 ?_
      refine rx_imul C dX11_ahead_300 ?_
      refine rx_aload_n C 0 dX11_ahead_301 rfl rfl ?_
      refine rx_getC C (k := 0) sm_0 fc_X11 (by decide) 1 rfl lk_X11_7 dX11_ahead_302 ?_
      refine rx_iload_n C 1 dX11_ahead_305 rfl rfl ?_
      refine rx_iald C (n := 1800) sm_1 dX11_ahead_306 (fun _ => ?_)
      refine rx_iadd C dX11_ahead_307 ?_
      refine rx_bipush C dX11_ahead_308 bp_48 ?_
      refine rx_isub C dX11_ahead_310 ?_
      refine rx_putI C (k := 6) sm_0 fc_X11 (by decide) rfl lk_X11_29 rfl ⟨rfl, rfl⟩ dX11_ahead_311 ?_
      refine rx_lts (fun σ37 => ?_)
      exact RX.loc (w_X11_ahead_314 C k_200 hk_200 x1 x2 x3 x4 x5 σ37) [0, 1, 2, 3, 4, 5] rfl
set_option maxRecDepth 100000 in
set_option maxHeartbeats 4000000 in
theorem w_X11_ahead_252 {α : Nat → Nat} {D : va_G} {cA : Nat → ClassId} {z : Cz} (C : CX shM α D cA z RX11 cX11_ahead 6 none 1 22) (k_200 : Int32 → Int32 → Int32 → Int32 → Int32 → St → Option (Unit × St)) (hk_200 : ∀ (x1 : Int32) (x2 : Int32) (x3 : Int32) (x4 : Int32) (x5 : Int32) (σ : St), RX emV shM α D cA z 6 σ 200 [(0, .ref (α 0)), (1, .int x1), (2, .int x2), (3, .int x3), (4, .int x4), (5, .int x5)] [] (k_200 x1 x2 x3 x4 x5 σ)) (x1 : Int32) (x2 : Int32) (x3 : Int32) (x4 : Int32) (x5 : Int32) (σ : St) : RX emV shM α D cA z 6 σ 252 [(0, .ref (α 0)), (1, .int x1), (2, .int x2), (3, .int x3), (4, .int x4), (5, .int x5)] [] (f_X11_ahead_252 k_200 x1 x2 x3 x4 x5 σ) := by
  unfold f_X11_ahead_252
  refine rx_iload C 5 dX11_ahead_252 rfl ?_
  refine rx_iload C 4 dX11_ahead_254 rfl ?_
  refine rx_icmp_ge C (tgt := 282) dX11_ahead_256 (by decide) (fun _ => ?_) (fun _ => ?_)
  · exact RX.loc (w_X11_ahead_282 C k_200 hk_200 x1 x2 x3 x4 x5 σ) [0, 1, 2, 3, 4, 5] rfl
  · refine rx_iload_n C 2 dX11_ahead_259 rfl rfl ?_
    refine rx_if_eq C (tgt := 282) dX11_ahead_260 (by decide) (fun _ => ?_) (fun _ => ?_)
    · exact RX.loc (w_X11_ahead_282 C k_200 hk_200 x1 x2 x3 x4 x5 σ) [0, 1, 2, 3, 4, 5] rfl
    · refine rx_aload_n C 0 dX11_ahead_263 rfl rfl ?_
      refine rx_aload_n C 0 dX11_ahead_264 rfl rfl ?_
      refine rx_getL C (k := 7) sm_0 fc_X11 (by decide) rfl lk_X11_32 dX11_ahead_265 ?_
      refine rx_bipush C dX11_ahead_268 bp_8 ?_
      refine rx_lshl C dX11_ahead_270 ?_
      refine rx_aload_n C 0 dX11_ahead_271 rfl rfl ?_
      refine rx_getC C (k := 0) sm_0 fc_X11 (by decide) 1 rfl lk_X11_7 dX11_ahead_272 ?_
      refine rx_iload_n C 1 dX11_ahead_275 rfl rfl ?_
      refine rx_iald C (n := 1800) sm_1 dX11_ahead_276 (fun _ => ?_)
      refine rx_i2l C dX11_ahead_277 ?_
      refine rx_lor C dX11_ahead_278 ?_
      refine rx_putL C (k := 7) sm_0 fc_X11 (by decide) rfl lk_X11_32 rfl ⟨rfl, rfl⟩ dX11_ahead_279 ?_
      refine rx_lts (fun σ38 => ?_)
      exact RX.loc (w_X11_ahead_282 C k_200 hk_200 x1 x2 x3 x4 x5 σ38) [0, 1, 2, 3, 4, 5] rfl
set_option maxRecDepth 100000 in
set_option maxHeartbeats 4000000 in
theorem w_X11_ahead_239 {α : Nat → Nat} {D : va_G} {cA : Nat → ClassId} {z : Cz} (C : CX shM α D cA z RX11 cX11_ahead 6 none 1 22) (k_200 : Int32 → Int32 → Int32 → Int32 → Int32 → St → Option (Unit × St)) (hk_200 : ∀ (x1 : Int32) (x2 : Int32) (x3 : Int32) (x4 : Int32) (x5 : Int32) (σ : St), RX emV shM α D cA z 6 σ 200 [(0, .ref (α 0)), (1, .int x1), (2, .int x2), (3, .int x3), (4, .int x4), (5, .int x5)] [] (k_200 x1 x2 x3 x4 x5 σ)) (x1 : Int32) (x2 : Int32) (x3 : Int32) (x4 : Int32) (x5 : Int32) (σ : St) : RX emV shM α D cA z 6 σ 239 [(0, .ref (α 0)), (1, .int x1), (2, .int x2), (3, .int x3), (4, .int x4), (5, .int x5)] [] (f_X11_ahead_239 k_200 x1 x2 x3 x4 x5 σ) := by
  unfold f_X11_ahead_239
  refine rx_iload C 5 dX11_ahead_239 rfl ?_
  refine rx_iload C 4 dX11_ahead_241 rfl ?_
  refine rx_icmp_ne C (tgt := 252) dX11_ahead_243 (by decide) (fun _ => ?_) (fun _ => ?_)
  · refine rx_aload_n C 0 dX11_ahead_246 rfl rfl ?_
    refine rx_iconst C dX11_ahead_247 ic_1 ?_
    refine rx_iload_n C 1 dX11_ahead_248 rfl rfl ?_
    refine rx_callVv C [.int (1 : Int32), .int x1] [] (m_X11_blame z.l C.inj (1 : Int32) x1 σ) mv_X11_blame lk_X11_249 sm_0 rfl rfl rfl (Nat.le_of_ble_eq_true rfl) ⟨Nat.le_of_ble_eq_true rfl, Nat.le_of_ble_eq_true rfl⟩ dX11_ahead_249 (fun q36 => ?_)
    exact RX.loc (w_X11_ahead_252 C k_200 hk_200 x1 x2 x3 x4 x5 q36.2) [0, 1, 2, 3, 4, 5] rfl
  · exact RX.loc (w_X11_ahead_252 C k_200 hk_200 x1 x2 x3 x4 x5 σ) [0, 1, 2, 3, 4, 5] rfl
set_option maxRecDepth 100000 in
set_option maxHeartbeats 4000000 in
theorem w_X11_ahead_200 {α : Nat → Nat} {D : va_G} {cA : Nat → ClassId} {z : Cz} (C : CX shM α D cA z RX11 cX11_ahead 6 none 1 22) : ∀ (n : Nat) (x1 : Int32) (x2 : Int32) (x3 : Int32) (x4 : Int32) (x5 : Int32) (σ : St), RX emV shM α D cA z 6 σ 200 [(0, .ref (α 0)), (1, .int x1), (2, .int x2), (3, .int x3), (4, .int x4), (5, .int x5)] [] (f_X11_ahead_200 n x1 x2 x3 x4 x5 σ) := by
  intro n
  induction n with
  | zero => intros; exact rx_none
  | succ n hk_200 =>
    intro x1 x2 x3 x4 x5 σ
    rw [f_X11_ahead_200.eq_2]
    refine rx_iload_n C 1 dX11_ahead_200 rfl rfl ?_
    refine rx_aload_n C 0 dX11_ahead_201 rfl rfl ?_
    refine rx_getI C (k := 2) sm_0 fc_X11 (by decide) rfl lk_X11_17 dX11_ahead_202 ?_
    refine rx_icmp_ge C (tgt := 323) dX11_ahead_205 (by decide) (fun _ => ?_) (fun _ => ?_)
    · exact RX.loc (w_X11_ahead_323 C x1 σ) [0, 1] rfl
    · refine rx_iload_n C 2 dX11_ahead_208 rfl rfl ?_
      refine rx_if_eq C (tgt := 227) dX11_ahead_209 (by decide) (fun _ => ?_) (fun _ => ?_)
      · refine rx_aload_n C 0 dX11_ahead_227 rfl rfl ?_
        refine rx_getC C (k := 0) sm_0 fc_X11 (by decide) 1 rfl lk_X11_7 dX11_ahead_228 ?_
        refine rx_iload_n C 1 dX11_ahead_231 rfl rfl ?_
        refine rx_iald C (n := 1800) sm_1 dX11_ahead_232 (fun _ => ?_)
        refine rx_callSi C [.int (gI σ 1 (ix x1))] [] (m_X11_isDigit z.l C.inj (gI σ 1 (ix x1)) σ) ms_X11_isDigit lk_X11_246 rfl rfl (Nat.le_of_ble_eq_true rfl) ⟨Nat.le_of_ble_eq_true rfl, Nat.le_of_ble_eq_true rfl⟩ dX11_ahead_233 (fun q35 => ?_)
        refine rx_if_eq C (tgt := 323) dX11_ahead_236 (by decide) (fun _ => ?_) (fun _ => ?_)
        · exact RX.loc (w_X11_ahead_323 C x1 q35.2) [0, 1] rfl
        · exact RX.loc (w_X11_ahead_239 C (f_X11_ahead_200 n) hk_200 x1 x2 x3 x4 x5 q35.2) [0, 1, 2, 3, 4, 5] rfl
      · refine rx_aload_n C 0 dX11_ahead_212 rfl rfl ?_
        refine rx_getC C (k := 0) sm_0 fc_X11 (by decide) 1 rfl lk_X11_7 dX11_ahead_213 ?_
        refine rx_iload_n C 1 dX11_ahead_216 rfl rfl ?_
        refine rx_iald C (n := 1800) sm_1 dX11_ahead_217 (fun _ => ?_)
        refine rx_callSi C [.int (gI σ 1 (ix x1))] [] (m_X11_isLetter z.l C.inj (gI σ 1 (ix x1)) σ) ms_X11_isLetter lk_X11_242 rfl rfl (Nat.le_of_ble_eq_true rfl) ⟨Nat.le_of_ble_eq_true rfl, Nat.le_of_ble_eq_true rfl⟩ dX11_ahead_218 (fun q39 => ?_)
        refine rx_if_eq C (tgt := 323) dX11_ahead_221 (by decide) (fun _ => ?_) (fun _ => ?_)
        · exact RX.loc (w_X11_ahead_323 C x1 q39.2) [0, 1] rfl
        · refine rx_goto C (tgt := 239) dX11_ahead_224 (by decide) ?_
          exact RX.loc (w_X11_ahead_239 C (f_X11_ahead_200 n) hk_200 x1 x2 x3 x4 x5 q39.2) [0, 1, 2, 3, 4, 5] rfl
set_option maxRecDepth 100000 in
set_option maxHeartbeats 4000000 in
theorem w_X11_ahead_195 {α : Nat → Nat} {D : va_G} {cA : Nat → ClassId} {z : Cz} (C : CX shM α D cA z RX11 cX11_ahead 6 none 1 22) (x1 : Int32) (x2 : Int32) (x3 : Int32) (s0 : Int32) (σ : St) : RX emV shM α D cA z 6 σ 195 [(0, .ref (α 0)), (1, .int x1), (2, .int x2), (3, .int x3)] [.int s0] (f_X11_ahead_195 x1 x2 x3 s0 σ) := by
  unfold f_X11_ahead_195
  refine rx_istore C [(4, .int s0), (0, .ref (α 0)), (1, .int x1), (2, .int x2), (3, .int x3)] dX11_ahead_195 (by decide) rfl ?_
  refine rx_iconst C dX11_ahead_197 ic_0 ?_
  refine rx_istore C [(5, .int (0 : Int32)), (4, .int s0), (0, .ref (α 0)), (1, .int x1), (2, .int x2), (3, .int x3)] dX11_ahead_198 (by decide) rfl ?_
  exact RX.loc (w_X11_ahead_200 C FU x1 x2 x3 s0 (0 : Int32) σ) [2, 3, 4, 5, 1, 0] rfl
set_option maxRecDepth 100000 in
set_option maxHeartbeats 4000000 in
theorem w_X11_ahead_182 {α : Nat → Nat} {D : va_G} {cA : Nat → ClassId} {z : Cz} (C : CX shM α D cA z RX11 cX11_ahead 6 none 1 22) (x1 : Int32) (x2 : Int32) (x3 : Int32) (s1 : Int32) (σ : St) : RX emV shM α D cA z 6 σ 182 [(0, .ref (α 0)), (1, .int x1), (2, .int x2), (3, .int x3)] [.int s1, .ref (α 0)] (f_X11_ahead_182 x1 x2 x3 s1 σ) := by
  unfold f_X11_ahead_182
  refine rx_putI C (k := 3) sm_0 fc_X11 (by decide) rfl lk_X11_20 rfl ⟨rfl, rfl⟩ dX11_ahead_182 ?_
  refine rx_lts (fun σ33 => ?_)
  refine rx_iload_n C 2 dX11_ahead_185 rfl rfl ?_
  refine rx_if_eq C (tgt := 194) dX11_ahead_186 (by decide) (fun _ => ?_) (fun _ => ?_)
  · refine rx_iconst C dX11_ahead_194 ic_4 ?_
    exact RX.loc (w_X11_ahead_195 C x1 x2 x3 (4 : Int32) σ33) [0, 1, 2, 3] rfl
  · refine rx_bipush C dX11_ahead_189 bp_6 ?_
    refine rx_goto C (tgt := 195) dX11_ahead_191 (by decide) ?_
    exact RX.loc (w_X11_ahead_195 C x1 x2 x3 (6 : Int32) σ33) [0, 1, 2, 3] rfl
set_option maxRecDepth 100000 in
set_option maxHeartbeats 4000000 in
theorem w_X11_ahead_172 {α : Nat → Nat} {D : va_G} {cA : Nat → ClassId} {z : Cz} (C : CX shM α D cA z RX11 cX11_ahead 6 none 1 22) (x1 : Int32) (x2 : Int32) (x3 : Int32) (σ : St) : RX emV shM α D cA z 6 σ 172 [(0, .ref (α 0)), (1, .int x1), (2, .int x2), (3, .int x3)] [] (f_X11_ahead_172 x1 x2 x3 σ) := by
  unfold f_X11_ahead_172
  refine rx_aload_n C 0 dX11_ahead_172 rfl rfl ?_
  refine rx_iload_n C 2 dX11_ahead_173 rfl rfl ?_
  refine rx_if_eq C (tgt := 181) dX11_ahead_174 (by decide) (fun _ => ?_) (fun _ => ?_)
  · refine rx_iconst C dX11_ahead_181 ic_2 ?_
    exact RX.loc (w_X11_ahead_182 C x1 x2 x3 (2 : Int32) σ) [0, 1, 2, 3] rfl
  · refine rx_iconst C dX11_ahead_177 ic_1 ?_
    refine rx_goto C (tgt := 182) dX11_ahead_178 (by decide) ?_
    exact RX.loc (w_X11_ahead_182 C x1 x2 x3 (1 : Int32) σ) [0, 1, 2, 3] rfl
set_option maxRecDepth 100000 in
set_option maxHeartbeats 4000000 in
theorem w_X11_ahead_131 {α : Nat → Nat} {D : va_G} {cA : Nat → ClassId} {z : Cz} (C : CX shM α D cA z RX11 cX11_ahead 6 none 1 22) (x1 : Int32) (x2 : Int32) (x3 : Int32) (σ : St) : RX emV shM α D cA z 6 σ 131 [(0, .ref (α 0)), (1, .int x1), (2, .int x2), (3, .int x3)] [] (f_X11_ahead_131 x1 x2 x3 σ) := by
  unfold f_X11_ahead_131
  refine rx_aload_n C 0 dX11_ahead_131 rfl rfl ?_
  refine rx_iconst C dX11_ahead_132 ic_0 ?_
  refine rx_putI C (k := 6) sm_0 fc_X11 (by decide) rfl lk_X11_29 rfl ⟨rfl, rfl⟩ dX11_ahead_133 ?_
  refine rx_lts (fun σ28 => ?_)
  refine rx_aload_n C 0 dX11_ahead_136 rfl rfl ?_
  refine rx_lconst C dX11_ahead_137 lc_0 ?_
  refine rx_putL C (k := 7) sm_0 fc_X11 (by decide) rfl lk_X11_32 rfl ⟨rfl, rfl⟩ dX11_ahead_138 ?_
  refine rx_lts (fun σ29 => ?_)
  refine rx_aload_n C 0 dX11_ahead_141 rfl rfl ?_
  refine rx_iconst C dX11_ahead_142 ic_3 ?_
  refine rx_putI C (k := 3) sm_0 fc_X11 (by decide) rfl lk_X11_20 rfl ⟨rfl, rfl⟩ dX11_ahead_143 ?_
  refine rx_lts (fun σ30 => ?_)
  refine rx_aload_n C 0 dX11_ahead_146 rfl rfl ?_
  refine rx_iload_n C 1 dX11_ahead_147 rfl rfl ?_
  refine rx_iconst C dX11_ahead_148 ic_1 ?_
  refine rx_iadd C dX11_ahead_149 ?_
  refine rx_putI C (k := 5) sm_0 fc_X11 (by decide) rfl lk_X11_26 rfl ⟨rfl, rfl⟩ dX11_ahead_150 ?_
  refine rx_lts (fun σ31 => ?_)
  refine rx_iload_n C 2 dX11_ahead_153 rfl rfl ?_
  refine rx_if_ne C (tgt := 172) dX11_ahead_154 (by decide) (fun _ => ?_) (fun _ => ?_)
  · refine rx_iload_n C 3 dX11_ahead_157 rfl rfl ?_
    refine rx_if_ne C (tgt := 172) dX11_ahead_158 (by decide) (fun _ => ?_) (fun _ => ?_)
    · refine rx_aload_n C 0 dX11_ahead_161 rfl rfl ?_
      refine rx_aload_n C 0 dX11_ahead_162 rfl rfl ?_
      refine rx_getC C (k := 0) sm_0 fc_X11 (by decide) 1 rfl lk_X11_7 dX11_ahead_163 ?_
      refine rx_iload_n C 1 dX11_ahead_166 rfl rfl ?_
      refine rx_iald C (n := 1800) sm_1 dX11_ahead_167 (fun _ => ?_)
      refine rx_putI C (k := 6) sm_0 fc_X11 (by decide) rfl lk_X11_29 rfl ⟨rfl, rfl⟩ dX11_ahead_168 ?_
      refine rx_lts (fun σ32 => ?_)
      exact rx_vret C dX11_ahead_171
    · exact RX.loc (w_X11_ahead_172 C x1 x2 x3 σ31) [0, 1, 2, 3] rfl
  · exact RX.loc (w_X11_ahead_172 C x1 x2 x3 σ31) [0, 1, 2, 3] rfl
set_option maxRecDepth 100000 in
set_option maxHeartbeats 4000000 in
theorem w_X11_ahead_125 {α : Nat → Nat} {D : va_G} {cA : Nat → ClassId} {z : Cz} (C : CX shM α D cA z RX11 cX11_ahead 6 none 1 22) (x1 : Int32) (x2 : Int32) (x3 : Int32) (σ : St) : RX emV shM α D cA z 6 σ 125 [(0, .ref (α 0)), (1, .int x1), (2, .int x2), (3, .int x3)] [] (f_X11_ahead_125 x1 x2 x3 σ) := by
  unfold f_X11_ahead_125
  refine rx_aload_n C 0 dX11_ahead_125 rfl rfl ?_
  refine rx_iconst C dX11_ahead_126 ic_1 ?_
  refine rx_iload_n C 1 dX11_ahead_127 rfl rfl ?_
  refine rx_callVv C [.int (1 : Int32), .int x1] [] (m_X11_blame z.l C.inj (1 : Int32) x1 σ) mv_X11_blame lk_X11_249 sm_0 rfl rfl rfl (Nat.le_of_ble_eq_true rfl) ⟨Nat.le_of_ble_eq_true rfl, Nat.le_of_ble_eq_true rfl⟩ dX11_ahead_128 (fun q42 => ?_)
  exact RX.loc (w_X11_ahead_131 C x1 x2 x3 q42.2) [0, 1, 2, 3] rfl
set_option maxRecDepth 100000 in
set_option maxHeartbeats 4000000 in
theorem w_X11_ahead_93 {α : Nat → Nat} {D : va_G} {cA : Nat → ClassId} {z : Cz} (C : CX shM α D cA z RX11 cX11_ahead 6 none 1 22) (x1 : Int32) (x2 : Int32) (x3 : Int32) (σ : St) : RX emV shM α D cA z 6 σ 93 [(0, .ref (α 0)), (1, .int x1), (2, .int x2), (3, .int x3)] [] (f_X11_ahead_93 x1 x2 x3 σ) := by
  unfold f_X11_ahead_93
  refine rx_iload_n C 1 dX11_ahead_93 rfl rfl ?_
  refine rx_if_le C (tgt := 131) dX11_ahead_94 (by decide) (fun _ => ?_) (fun _ => ?_)
  · exact RX.loc (w_X11_ahead_131 C x1 x2 x3 σ) [0, 1, 2, 3] rfl
  · refine rx_aload_n C 0 dX11_ahead_97 rfl rfl ?_
    refine rx_getC C (k := 0) sm_0 fc_X11 (by decide) 1 rfl lk_X11_7 dX11_ahead_98 ?_
    refine rx_iload_n C 1 dX11_ahead_101 rfl rfl ?_
    refine rx_iconst C dX11_ahead_102 ic_1 ?_
    refine rx_isub C dX11_ahead_103 ?_
    refine rx_iald C (n := 1800) sm_1 dX11_ahead_104 (fun _ => ?_)
    refine rx_callSi C [.int (gI σ 1 (ix (x1 - (1 : Int32))))] [] (m_X11_isLetter z.l C.inj (gI σ 1 (ix (x1 - (1 : Int32)))) σ) ms_X11_isLetter lk_X11_242 rfl rfl (Nat.le_of_ble_eq_true rfl) ⟨Nat.le_of_ble_eq_true rfl, Nat.le_of_ble_eq_true rfl⟩ dX11_ahead_105 (fun q40 => ?_)
    refine rx_if_ne C (tgt := 125) dX11_ahead_108 (by decide) (fun _ => ?_) (fun _ => ?_)
    · refine rx_aload_n C 0 dX11_ahead_111 rfl rfl ?_
      refine rx_getC C (k := 0) sm_0 fc_X11 (by decide) 1 rfl lk_X11_7 dX11_ahead_112 ?_
      refine rx_iload_n C 1 dX11_ahead_115 rfl rfl ?_
      refine rx_iconst C dX11_ahead_116 ic_1 ?_
      refine rx_isub C dX11_ahead_117 ?_
      refine rx_iald C (n := 1800) sm_1 dX11_ahead_118 (fun _ => ?_)
      refine rx_callSi C [.int (gI q40.2 1 (ix (x1 - (1 : Int32))))] [] (m_X11_isDigit z.l C.inj (gI q40.2 1 (ix (x1 - (1 : Int32)))) q40.2) ms_X11_isDigit lk_X11_246 rfl rfl (Nat.le_of_ble_eq_true rfl) ⟨Nat.le_of_ble_eq_true rfl, Nat.le_of_ble_eq_true rfl⟩ dX11_ahead_119 (fun q41 => ?_)
      refine rx_if_eq C (tgt := 131) dX11_ahead_122 (by decide) (fun _ => ?_) (fun _ => ?_)
      · exact RX.loc (w_X11_ahead_131 C x1 x2 x3 q41.2) [0, 1, 2, 3] rfl
      · exact RX.loc (w_X11_ahead_125 C x1 x2 x3 q41.2) [0, 1, 2, 3] rfl
    · exact RX.loc (w_X11_ahead_125 C x1 x2 x3 q40.2) [0, 1, 2, 3] rfl
set_option maxRecDepth 100000 in
set_option maxHeartbeats 4000000 in
theorem w_X11_ahead_41 {α : Nat → Nat} {D : va_G} {cA : Nat → ClassId} {z : Cz} (C : CX shM α D cA z RX11 cX11_ahead 6 none 1 22) (x1 : Int32) (σ : St) : RX emV shM α D cA z 6 σ 41 [(0, .ref (α 0)), (1, .int x1)] [] (f_X11_ahead_41 x1 σ) := by
  unfold f_X11_ahead_41
  refine rx_aload_n C 0 dX11_ahead_41 rfl rfl ?_
  refine rx_iload_n C 1 dX11_ahead_42 rfl rfl ?_
  refine rx_putI C (k := 4) sm_0 fc_X11 (by decide) rfl lk_X11_23 rfl ⟨rfl, rfl⟩ dX11_ahead_43 ?_
  refine rx_lts (fun σ23 => ?_)
  refine rx_aload_n C 0 dX11_ahead_46 rfl rfl ?_
  refine rx_iload_n C 1 dX11_ahead_47 rfl rfl ?_
  refine rx_putI C (k := 5) sm_0 fc_X11 (by decide) rfl lk_X11_26 rfl ⟨rfl, rfl⟩ dX11_ahead_48 ?_
  refine rx_lts (fun σ24 => ?_)
  refine rx_aload_n C 0 dX11_ahead_51 rfl rfl ?_
  refine rx_iconst C dX11_ahead_52 ic_0 ?_
  refine rx_putI C (k := 3) sm_0 fc_X11 (by decide) rfl lk_X11_20 rfl ⟨rfl, rfl⟩ dX11_ahead_53 ?_
  refine rx_lts (fun σ25 => ?_)
  refine rx_iload_n C 1 dX11_ahead_56 rfl rfl ?_
  refine rx_aload_n C 0 dX11_ahead_57 rfl rfl ?_
  refine rx_getI C (k := 2) sm_0 fc_X11 (by decide) rfl lk_X11_17 dX11_ahead_58 ?_
  refine rx_icmp_lt C (tgt := 65) dX11_ahead_61 (by decide) (fun _ => ?_) (fun _ => ?_)
  · refine rx_aload_n C 0 dX11_ahead_65 rfl rfl ?_
    refine rx_getC C (k := 0) sm_0 fc_X11 (by decide) 1 rfl lk_X11_7 dX11_ahead_66 ?_
    refine rx_iload_n C 1 dX11_ahead_69 rfl rfl ?_
    refine rx_iald C (n := 1800) sm_1 dX11_ahead_70 (fun _ => ?_)
    refine rx_callSi C [.int (gI σ25 1 (ix x1))] [] (m_X11_isLetter z.l C.inj (gI σ25 1 (ix x1)) σ25) ms_X11_isLetter lk_X11_242 rfl rfl (Nat.le_of_ble_eq_true rfl) ⟨Nat.le_of_ble_eq_true rfl, Nat.le_of_ble_eq_true rfl⟩ dX11_ahead_71 (fun q26 => ?_)
    refine rx_istore_n C [(2, .int q26.1), (0, .ref (α 0)), (1, .int x1)] dX11_ahead_74 rfl (by decide) rfl ?_
    refine rx_aload_n C 1 dX11_ahead_75 rfl rfl ?_
    refine rx_getC C (k := 0) sm_0 fc_X11 (by decide) 1 rfl lk_X11_7 dX11_ahead_76 ?_
    refine rx_iload_n C 2 dX11_ahead_79 rfl rfl ?_
    refine rx_iald C (n := 1800) sm_1 dX11_ahead_80 (fun _ => ?_)
    refine rx_callSi C [.int (gI q26.2 1 (ix x1))] [] (m_X11_isDigit z.l C.inj (gI q26.2 1 (ix x1)) q26.2) ms_X11_isDigit lk_X11_246 rfl rfl (Nat.le_of_ble_eq_true rfl) ⟨Nat.le_of_ble_eq_true rfl, Nat.le_of_ble_eq_true rfl⟩ dX11_ahead_81 (fun q27 => ?_)
    refine rx_istore_n C [(3, .int q27.1), (2, .int q26.1), (0, .ref (α 0)), (1, .int x1)] dX11_ahead_84 rfl (by decide) rfl ?_
    refine rx_iload_n C 1 dX11_ahead_85 rfl rfl ?_
    refine rx_if_ne C (tgt := 93) dX11_ahead_86 (by decide) (fun _ => ?_) (fun _ => ?_)
    · refine rx_iload_n C 0 dX11_ahead_89 rfl rfl ?_
      refine rx_if_eq C (tgt := 131) dX11_ahead_90 (by decide) (fun _ => ?_) (fun _ => ?_)
      · exact RX.loc (w_X11_ahead_131 C x1 q26.1 q27.1 q27.2) [2, 3, 1, 0] rfl
      · exact RX.loc (w_X11_ahead_93 C x1 q26.1 q27.1 q27.2) [2, 3, 1, 0] rfl
    · exact RX.loc (w_X11_ahead_93 C x1 q26.1 q27.1 q27.2) [2, 3, 1, 0] rfl
  · exact rx_vret C dX11_ahead_64
set_option maxRecDepth 100000 in
set_option maxHeartbeats 4000000 in
theorem w_X11_ahead_35 {α : Nat → Nat} {D : va_G} {cA : Nat → ClassId} {z : Cz} (C : CX shM α D cA z RX11 cX11_ahead 6 none 1 22) (k_5 : Int32 → St → Option (Unit × St)) (hk_5 : ∀ (x1 : Int32) (σ : St), RX emV shM α D cA z 6 σ 5 [(0, .ref (α 0)), (1, .int x1)] [] (k_5 x1 σ)) (x1 : Int32) (σ : St) : RX emV shM α D cA z 6 σ 35 [(0, .ref (α 0)), (1, .int x1)] [] (f_X11_ahead_35 k_5 x1 σ) := by
  unfold f_X11_ahead_35
  refine rx_iinc C (k0 := 1) (v := x1 + (1 : Int32)) [(1, .int (x1 + (1 : Int32))), (0, .ref (α 0))] dX11_ahead_35 rfl (congrArg _ ic_1) (by decide) rfl ?_
  refine rx_goto C (tgt := 5) dX11_ahead_38 (by decide) ?_
  exact RX.loc (hk_5 (x1 + (1 : Int32)) σ) [1, 0] rfl
set_option maxRecDepth 100000 in
set_option maxHeartbeats 4000000 in
theorem w_X11_ahead_5 {α : Nat → Nat} {D : va_G} {cA : Nat → ClassId} {z : Cz} (C : CX shM α D cA z RX11 cX11_ahead 6 none 1 22) : ∀ (n : Nat) (x1 : Int32) (σ : St), RX emV shM α D cA z 6 σ 5 [(0, .ref (α 0)), (1, .int x1)] [] (f_X11_ahead_5 n x1 σ) := by
  intro n
  induction n with
  | zero => intros; exact rx_none
  | succ n hk_5 =>
    intro x1 σ
    rw [f_X11_ahead_5.eq_2]
    refine rx_iload_n C 1 dX11_ahead_5 rfl rfl ?_
    refine rx_aload_n C 0 dX11_ahead_6 rfl rfl ?_
    refine rx_getI C (k := 2) sm_0 fc_X11 (by decide) rfl lk_X11_17 dX11_ahead_7 ?_
    refine rx_icmp_ge C (tgt := 41) dX11_ahead_10 (by decide) (fun _ => ?_) (fun _ => ?_)
    · exact RX.loc (w_X11_ahead_41 C x1 σ) [0, 1] rfl
    · refine rx_aload_n C 0 dX11_ahead_13 rfl rfl ?_
      refine rx_getC C (k := 0) sm_0 fc_X11 (by decide) 1 rfl lk_X11_7 dX11_ahead_14 ?_
      refine rx_iload_n C 1 dX11_ahead_17 rfl rfl ?_
      refine rx_iald C (n := 1800) sm_1 dX11_ahead_18 (fun _ => ?_)
      refine rx_bipush C dX11_ahead_19 bp_32 ?_
      refine rx_icmp_eq C (tgt := 35) dX11_ahead_21 (by decide) (fun _ => ?_) (fun _ => ?_)
      · exact RX.loc (w_X11_ahead_35 C (f_X11_ahead_5 n) hk_5 x1 σ) [0, 1] rfl
      · refine rx_aload_n C 0 dX11_ahead_24 rfl rfl ?_
        refine rx_getC C (k := 0) sm_0 fc_X11 (by decide) 1 rfl lk_X11_7 dX11_ahead_25 ?_
        refine rx_iload_n C 1 dX11_ahead_28 rfl rfl ?_
        refine rx_iald C (n := 1800) sm_1 dX11_ahead_29 (fun _ => ?_)
        refine rx_bipush C dX11_ahead_30 bp_10 ?_
        refine rx_icmp_ne C (tgt := 41) dX11_ahead_32 (by decide) (fun _ => ?_) (fun _ => ?_)
        · exact RX.loc (w_X11_ahead_35 C (f_X11_ahead_5 n) hk_5 x1 σ) [0, 1] rfl
        · exact RX.loc (w_X11_ahead_41 C x1 σ) [0, 1] rfl
set_option maxRecDepth 100000 in
set_option maxHeartbeats 4000000 in
theorem w_X11_ahead_e {α : Nat → Nat} {D : va_G} {cA : Nat → ClassId} {z : Cz} (C : CX shM α D cA z RX11 cX11_ahead 6 none 1 22) (σ : St) : RX emV shM α D cA z 6 σ 0 [(0, .ref (α 0))] [] (f_X11_ahead σ) := by
  unfold f_X11_ahead
  refine rx_aload_n C 0 dX11_ahead_0 rfl rfl ?_
  refine rx_getI C (k := 5) sm_0 fc_X11 (by decide) rfl lk_X11_26 dX11_ahead_1 ?_
  refine rx_lti (fun w22 => ?_)
  refine rx_istore_n C [(1, .int w22), (0, .ref (α 0))] dX11_ahead_4 rfl (by decide) rfl ?_
  exact RX.loc (w_X11_ahead_5 C FU w22 σ) [1, 0] rfl
theorem m_X11_ahead (l : Launch) {α : Nat → Nat} {D : va_G} {cA : Nat → ClassId} (hin : inj shM.length α) (σ : St) : CT shM l yX11_ahead cX11_ahead 6 none 1 22 emV α D cA [.ref (α 0)] σ (f_X11_ahead σ) := ct_of rfl (Nat.le_of_ble_eq_true rfl) hin (fun z _ C => w_X11_ahead_e C σ)
set_option maxRecDepth 100000 in
set_option maxHeartbeats 4000000 in
theorem w_X11_isSign_21 {α : Nat → Nat} {D : va_G} {cA : Nat → ClassId} {z : Cz} (C : CX shM α D cA z RX11 cX11_isSign 2 (some .boolean) 0 0) (s0 : Int32) (σ : St) : RX emI shM α D cA z 2 σ 21 [] [.int s0] (f_X11_isSign_21 s0 σ) := by
  unfold f_X11_isSign_21
  exact rx_zret C dX11_isSign_21
set_option maxRecDepth 100000 in
set_option maxHeartbeats 4000000 in
theorem w_X11_isSign_20 {α : Nat → Nat} {D : va_G} {cA : Nat → ClassId} {z : Cz} (C : CX shM α D cA z RX11 cX11_isSign 2 (some .boolean) 0 0) (σ : St) : RX emI shM α D cA z 2 σ 20 [] [] (f_X11_isSign_20 σ) := by
  unfold f_X11_isSign_20
  refine rx_iconst C dX11_isSign_20 ic_0 ?_
  exact RX.loc (w_X11_isSign_21 C (0 : Int32) σ) [] rfl
set_option maxRecDepth 100000 in
set_option maxHeartbeats 4000000 in
theorem w_X11_isSign_e {α : Nat → Nat} {D : va_G} {cA : Nat → ClassId} {z : Cz} (C : CX shM α D cA z RX11 cX11_isSign 2 (some .boolean) 0 0) (x1 : Int32) (σ : St) : RX emI shM α D cA z 2 σ 0 [(0, .ref (α 0)), (1, .int x1)] [] (f_X11_isSign x1 σ) := by
  unfold f_X11_isSign
  refine rx_aload_n C 0 dX11_isSign_0 rfl rfl ?_
  refine rx_getI C (k := 3) sm_0 fc_X11 (by decide) rfl lk_X11_20 dX11_isSign_1 ?_
  refine rx_iconst C dX11_isSign_4 ic_3 ?_
  refine rx_icmp_ne C (tgt := 20) dX11_isSign_5 (by decide) (fun _ => ?_) (fun _ => ?_)
  · refine rx_aload_n C 0 dX11_isSign_8 rfl rfl ?_
    refine rx_getI C (k := 6) sm_0 fc_X11 (by decide) rfl lk_X11_29 dX11_isSign_9 ?_
    refine rx_iload_n C 1 dX11_isSign_12 rfl rfl ?_
    refine rx_icmp_ne C (tgt := 20) dX11_isSign_13 (by decide) (fun _ => ?_) (fun _ => ?_)
    · refine rx_iconst C dX11_isSign_16 ic_1 ?_
      refine rx_goto C (tgt := 21) dX11_isSign_17 (by decide) ?_
      exact RX.loc (w_X11_isSign_21 C (1 : Int32) σ) [] rfl
    · exact RX.loc (w_X11_isSign_20 C σ) [] rfl
  · exact RX.loc (w_X11_isSign_20 C σ) [] rfl
theorem m_X11_isSign (l : Launch) {α : Nat → Nat} {D : va_G} {cA : Nat → ClassId} (hin : inj shM.length α) (x1 : Int32) (σ : St) : CT shM l yX11_isSign cX11_isSign 2 (some .boolean) 0 0 emI α D cA [.ref (α 0), .int x1] σ (f_X11_isSign x1 σ) := ct_of rfl (Nat.le_of_ble_eq_true rfl) hin (fun z _ C => w_X11_isSign_e C x1 σ)
set_option maxRecDepth 100000 in
set_option maxHeartbeats 4000000 in
theorem w_X11_isWord_22 {α : Nat → Nat} {D : va_G} {cA : Nat → ClassId} {z : Cz} (C : CX shM α D cA z RX11 cX11_isWord 3 (some .boolean) 0 0) (s0 : Int32) (σ : St) : RX emI shM α D cA z 3 σ 22 [] [.int s0] (f_X11_isWord_22 s0 σ) := by
  unfold f_X11_isWord_22
  exact rx_zret C dX11_isWord_22
set_option maxRecDepth 100000 in
set_option maxHeartbeats 4000000 in
theorem w_X11_isWord_21 {α : Nat → Nat} {D : va_G} {cA : Nat → ClassId} {z : Cz} (C : CX shM α D cA z RX11 cX11_isWord 3 (some .boolean) 0 0) (σ : St) : RX emI shM α D cA z 3 σ 21 [] [] (f_X11_isWord_21 σ) := by
  unfold f_X11_isWord_21
  refine rx_iconst C dX11_isWord_21 ic_0 ?_
  exact RX.loc (w_X11_isWord_22 C (0 : Int32) σ) [] rfl
set_option maxRecDepth 100000 in
set_option maxHeartbeats 4000000 in
theorem w_X11_isWord_e {α : Nat → Nat} {D : va_G} {cA : Nat → ClassId} {z : Cz} (C : CX shM α D cA z RX11 cX11_isWord 3 (some .boolean) 0 0) (y1 : Int64) (σ : St) : RX emI shM α D cA z 3 σ 0 [(0, .ref (α 0)), (1, .long y1)] [] (f_X11_isWord y1 σ) := by
  unfold f_X11_isWord
  refine rx_aload_n C 0 dX11_isWord_0 rfl rfl ?_
  refine rx_getI C (k := 3) sm_0 fc_X11 (by decide) rfl lk_X11_20 dX11_isWord_1 ?_
  refine rx_iconst C dX11_isWord_4 ic_1 ?_
  refine rx_icmp_ne C (tgt := 21) dX11_isWord_5 (by decide) (fun _ => ?_) (fun _ => ?_)
  · refine rx_aload_n C 0 dX11_isWord_8 rfl rfl ?_
    refine rx_getL C (k := 7) sm_0 fc_X11 (by decide) rfl lk_X11_32 dX11_isWord_9 ?_
    refine rx_lload_n C 1 dX11_isWord_12 rfl rfl ?_
    refine rx_lcmp C dX11_isWord_13 ?_
    refine rx_if_ne C (tgt := 21) dX11_isWord_14 (by decide) (fun _ => ?_) (fun _ => ?_)
    · refine rx_iconst C dX11_isWord_17 ic_1 ?_
      refine rx_goto C (tgt := 22) dX11_isWord_18 (by decide) ?_
      exact RX.loc (w_X11_isWord_22 C (1 : Int32) σ) [] rfl
    · exact RX.loc (w_X11_isWord_21 C σ) [] rfl
  · exact RX.loc (w_X11_isWord_21 C σ) [] rfl
theorem m_X11_isWord (l : Launch) {α : Nat → Nat} {D : va_G} {cA : Nat → ClassId} (hin : inj shM.length α) (y1 : Int64) (σ : St) : CT shM l yX11_isWord cX11_isWord 3 (some .boolean) 0 0 emI α D cA [.ref (α 0), .long y1] σ (f_X11_isWord y1 σ) := ct_of rfl (Nat.le_of_ble_eq_true rfl) hin (fun z _ C => w_X11_isWord_e C y1 σ)
set_option maxRecDepth 100000 in
set_option maxHeartbeats 4000000 in
theorem w_X11_must_28 {α : Nat → Nat} {D : va_G} {cA : Nat → ClassId} {z : Cz} (C : CX shM α D cA z RX11 cX11_must 2 none 2 47) (σ : St) : RX emV shM α D cA z 2 σ 28 [] [] (f_X11_must_28 σ) := by
  unfold f_X11_must_28
  exact rx_vret C dX11_must_28
set_option maxRecDepth 100000 in
set_option maxHeartbeats 4000000 in
theorem w_X11_must_17 {α : Nat → Nat} {D : va_G} {cA : Nat → ClassId} {z : Cz} (C : CX shM α D cA z RX11 cX11_must 2 none 2 47) (σ : St) : RX emV shM α D cA z 2 σ 17 [(0, .ref (α 0))] [] (f_X11_must_17 σ) := by
  unfold f_X11_must_17
  refine rx_aload_n C 0 dX11_must_17 rfl rfl ?_
  refine rx_getI C (k := 8) sm_0 fc_X11 (by decide) rfl lk_X11_36 dX11_must_18 ?_
  refine rx_if_ne C (tgt := 28) dX11_must_21 (by decide) (fun _ => ?_) (fun _ => ?_)
  · refine rx_aload_n C 0 dX11_must_24 rfl rfl ?_
    refine rx_callVv C [] [] (m_X11_ahead z.l C.inj σ) mv_X11_ahead lk_X11_256 sm_0 rfl rfl rfl (Nat.le_of_ble_eq_true rfl) ⟨Nat.le_of_ble_eq_true rfl, Nat.le_of_ble_eq_true rfl⟩ dX11_must_25 (fun q6 => ?_)
    exact RX.loc (w_X11_must_28 C q6.2) [] rfl
  · exact RX.loc (w_X11_must_28 C σ) [] rfl
set_option maxRecDepth 100000 in
set_option maxHeartbeats 4000000 in
theorem w_X11_must_e {α : Nat → Nat} {D : va_G} {cA : Nat → ClassId} {z : Cz} (C : CX shM α D cA z RX11 cX11_must 2 none 2 47) (x1 : Int32) (σ : St) : RX emV shM α D cA z 2 σ 0 [(0, .ref (α 0)), (1, .int x1)] [] (f_X11_must x1 σ) := by
  unfold f_X11_must
  refine rx_aload_n C 0 dX11_must_0 rfl rfl ?_
  refine rx_iload_n C 1 dX11_must_1 rfl rfl ?_
  refine rx_callVi C [.int x1] [] (m_X11_isSign z.l C.inj x1 σ) mv_X11_isSign lk_X11_253 sm_0 rfl rfl rfl (Nat.le_of_ble_eq_true rfl) ⟨Nat.le_of_ble_eq_true rfl, Nat.le_of_ble_eq_true rfl⟩ dX11_must_2 (fun q4 => ?_)
  refine rx_if_ne C (tgt := 17) dX11_must_5 (by decide) (fun _ => ?_) (fun _ => ?_)
  · refine rx_aload_n C 0 dX11_must_8 rfl rfl ?_
    refine rx_iconst C dX11_must_9 ic_1 ?_
    refine rx_aload_n C 0 dX11_must_10 rfl rfl ?_
    refine rx_getI C (k := 4) sm_0 fc_X11 (by decide) rfl lk_X11_23 dX11_must_11 ?_
    refine rx_callVv C [.int (1 : Int32), .int (gI q4.2 0 4)] [] (m_X11_blame z.l C.inj (1 : Int32) (gI q4.2 0 4) q4.2) mv_X11_blame lk_X11_249 sm_0 rfl rfl rfl (Nat.le_of_ble_eq_true rfl) ⟨Nat.le_of_ble_eq_true rfl, Nat.le_of_ble_eq_true rfl⟩ dX11_must_14 (fun q5 => ?_)
    exact RX.loc (w_X11_must_17 C q5.2) [0] rfl
  · exact RX.loc (w_X11_must_17 C q4.2) [0] rfl
theorem m_X11_must (l : Launch) {α : Nat → Nat} {D : va_G} {cA : Nat → ClassId} (hin : inj shM.length α) (x1 : Int32) (σ : St) : CT shM l yX11_must cX11_must 2 none 2 47 emV α D cA [.ref (α 0), .int x1] σ (f_X11_must x1 σ) := ct_of rfl (Nat.le_of_ble_eq_true rfl) hin (fun z _ C => w_X11_must_e C x1 σ)
set_option maxRecDepth 100000 in
set_option maxHeartbeats 4000000 in
theorem w_X11_isOwn_40 {α : Nat → Nat} {D : va_G} {cA : Nat → ClassId} {z : Cz} (C : CX shM α D cA z RX11 cX11_isOwn 3 (some .boolean) 0 0) (σ : St) : RX emI shM α D cA z 3 σ 40 [] [] (f_X11_isOwn_40 σ) := by
  unfold f_X11_isOwn_40
  refine rx_iconst C dX11_isOwn_40 ic_1 ?_
  exact rx_zretC C dX11_isOwn_41 rfl
set_option maxRecDepth 100000 in
set_option maxHeartbeats 4000000 in
theorem w_X11_isOwn_82 {α : Nat → Nat} {D : va_G} {cA : Nat → ClassId} {z : Cz} (C : CX shM α D cA z RX11 cX11_isOwn 3 (some .boolean) 0 0) (σ : St) : RX emI shM α D cA z 3 σ 82 [] [] (f_X11_isOwn_82 σ) := by
  unfold f_X11_isOwn_82
  refine rx_iconst C dX11_isOwn_82 ic_1 ?_
  exact rx_zretC C dX11_isOwn_83 rfl
set_option maxRecDepth 100000 in
set_option maxHeartbeats 4000000 in
theorem w_X11_isOwn_124 {α : Nat → Nat} {D : va_G} {cA : Nat → ClassId} {z : Cz} (C : CX shM α D cA z RX11 cX11_isOwn 3 (some .boolean) 0 0) (σ : St) : RX emI shM α D cA z 3 σ 124 [] [] (f_X11_isOwn_124 σ) := by
  unfold f_X11_isOwn_124
  refine rx_iconst C dX11_isOwn_124 ic_1 ?_
  exact rx_zretC C dX11_isOwn_125 rfl
set_option maxRecDepth 100000 in
set_option maxHeartbeats 4000000 in
theorem w_X11_isOwn_166 {α : Nat → Nat} {D : va_G} {cA : Nat → ClassId} {z : Cz} (C : CX shM α D cA z RX11 cX11_isOwn 3 (some .boolean) 0 0) (σ : St) : RX emI shM α D cA z 3 σ 166 [] [] (f_X11_isOwn_166 σ) := by
  unfold f_X11_isOwn_166
  refine rx_iconst C dX11_isOwn_166 ic_1 ?_
  exact rx_zretC C dX11_isOwn_167 rfl
set_option maxRecDepth 100000 in
set_option maxHeartbeats 4000000 in
theorem w_X11_isOwn_192 {α : Nat → Nat} {D : va_G} {cA : Nat → ClassId} {z : Cz} (C : CX shM α D cA z RX11 cX11_isOwn 3 (some .boolean) 0 0) (σ : St) : RX emI shM α D cA z 3 σ 192 [] [] (f_X11_isOwn_192 σ) := by
  unfold f_X11_isOwn_192
  refine rx_iconst C dX11_isOwn_192 ic_1 ?_
  exact rx_zretC C dX11_isOwn_193 rfl
set_option maxRecDepth 100000 in
set_option maxHeartbeats 4000000 in
theorem w_X11_isOwn_e {α : Nat → Nat} {D : va_G} {cA : Nat → ClassId} {z : Cz} (C : CX shM α D cA z RX11 cX11_isOwn 3 (some .boolean) 0 0) (y1 : Int64) (σ : St) : RX emI shM α D cA z 3 σ 0 [(0, .ref (α 0)), (1, .long y1)] [] (f_X11_isOwn y1 σ) := by
  unfold f_X11_isOwn
  refine rx_lload_n C 1 dX11_isOwn_0 rfl rfl ?_
  refine rx_ldc2_w C lk_X11_259 dX11_isOwn_1 ?_
  refine rx_lcmp C dX11_isOwn_4 ?_
  refine rx_if_eq C (tgt := 40) dX11_isOwn_5 (by decide) (fun _ => ?_) (fun _ => ?_)
  · exact RX.loc (w_X11_isOwn_40 C σ) [] rfl
  · refine rx_lload_n C 1 dX11_isOwn_8 rfl rfl ?_
    refine rx_ldc2_w C lk_X11_261 dX11_isOwn_9 ?_
    refine rx_lcmp C dX11_isOwn_12 ?_
    refine rx_if_eq C (tgt := 40) dX11_isOwn_13 (by decide) (fun _ => ?_) (fun _ => ?_)
    · exact RX.loc (w_X11_isOwn_40 C σ) [] rfl
    · refine rx_lload_n C 1 dX11_isOwn_16 rfl rfl ?_
      refine rx_ldc2_w C lk_X11_263 dX11_isOwn_17 ?_
      refine rx_lcmp C dX11_isOwn_20 ?_
      refine rx_if_eq C (tgt := 40) dX11_isOwn_21 (by decide) (fun _ => ?_) (fun _ => ?_)
      · exact RX.loc (w_X11_isOwn_40 C σ) [] rfl
      · refine rx_lload_n C 1 dX11_isOwn_24 rfl rfl ?_
        refine rx_ldc2_w C lk_X11_265 dX11_isOwn_25 ?_
        refine rx_lcmp C dX11_isOwn_28 ?_
        refine rx_if_eq C (tgt := 40) dX11_isOwn_29 (by decide) (fun _ => ?_) (fun _ => ?_)
        · exact RX.loc (w_X11_isOwn_40 C σ) [] rfl
        · refine rx_lload_n C 1 dX11_isOwn_32 rfl rfl ?_
          refine rx_ldc2_w C lk_X11_267 dX11_isOwn_33 ?_
          refine rx_lcmp C dX11_isOwn_36 ?_
          refine rx_if_ne C (tgt := 42) dX11_isOwn_37 (by decide) (fun _ => ?_) (fun _ => ?_)
          · exact RX.loc (w_X11_isOwn_40 C σ) [] rfl
          · refine rx_lload_n C 1 dX11_isOwn_42 rfl rfl ?_
            refine rx_ldc2_w C lk_X11_269 dX11_isOwn_43 ?_
            refine rx_lcmp C dX11_isOwn_46 ?_
            refine rx_if_eq C (tgt := 82) dX11_isOwn_47 (by decide) (fun _ => ?_) (fun _ => ?_)
            · exact RX.loc (w_X11_isOwn_82 C σ) [] rfl
            · refine rx_lload_n C 1 dX11_isOwn_50 rfl rfl ?_
              refine rx_ldc2_w C lk_X11_271 dX11_isOwn_51 ?_
              refine rx_lcmp C dX11_isOwn_54 ?_
              refine rx_if_eq C (tgt := 82) dX11_isOwn_55 (by decide) (fun _ => ?_) (fun _ => ?_)
              · exact RX.loc (w_X11_isOwn_82 C σ) [] rfl
              · refine rx_lload_n C 1 dX11_isOwn_58 rfl rfl ?_
                refine rx_ldc2_w C lk_X11_273 dX11_isOwn_59 ?_
                refine rx_lcmp C dX11_isOwn_62 ?_
                refine rx_if_eq C (tgt := 82) dX11_isOwn_63 (by decide) (fun _ => ?_) (fun _ => ?_)
                · exact RX.loc (w_X11_isOwn_82 C σ) [] rfl
                · refine rx_lload_n C 1 dX11_isOwn_66 rfl rfl ?_
                  refine rx_ldc2_w C lk_X11_275 dX11_isOwn_67 ?_
                  refine rx_lcmp C dX11_isOwn_70 ?_
                  refine rx_if_eq C (tgt := 82) dX11_isOwn_71 (by decide) (fun _ => ?_) (fun _ => ?_)
                  · exact RX.loc (w_X11_isOwn_82 C σ) [] rfl
                  · refine rx_lload_n C 1 dX11_isOwn_74 rfl rfl ?_
                    refine rx_ldc2_w C lk_X11_277 dX11_isOwn_75 ?_
                    refine rx_lcmp C dX11_isOwn_78 ?_
                    refine rx_if_ne C (tgt := 84) dX11_isOwn_79 (by decide) (fun _ => ?_) (fun _ => ?_)
                    · exact RX.loc (w_X11_isOwn_82 C σ) [] rfl
                    · refine rx_lload_n C 1 dX11_isOwn_84 rfl rfl ?_
                      refine rx_ldc2_w C lk_X11_279 dX11_isOwn_85 ?_
                      refine rx_lcmp C dX11_isOwn_88 ?_
                      refine rx_if_eq C (tgt := 124) dX11_isOwn_89 (by decide) (fun _ => ?_) (fun _ => ?_)
                      · exact RX.loc (w_X11_isOwn_124 C σ) [] rfl
                      · refine rx_lload_n C 1 dX11_isOwn_92 rfl rfl ?_
                        refine rx_ldc2_w C lk_X11_281 dX11_isOwn_93 ?_
                        refine rx_lcmp C dX11_isOwn_96 ?_
                        refine rx_if_eq C (tgt := 124) dX11_isOwn_97 (by decide) (fun _ => ?_) (fun _ => ?_)
                        · exact RX.loc (w_X11_isOwn_124 C σ) [] rfl
                        · refine rx_lload_n C 1 dX11_isOwn_100 rfl rfl ?_
                          refine rx_ldc2_w C lk_X11_283 dX11_isOwn_101 ?_
                          refine rx_lcmp C dX11_isOwn_104 ?_
                          refine rx_if_eq C (tgt := 124) dX11_isOwn_105 (by decide) (fun _ => ?_) (fun _ => ?_)
                          · exact RX.loc (w_X11_isOwn_124 C σ) [] rfl
                          · refine rx_lload_n C 1 dX11_isOwn_108 rfl rfl ?_
                            refine rx_ldc2_w C lk_X11_285 dX11_isOwn_109 ?_
                            refine rx_lcmp C dX11_isOwn_112 ?_
                            refine rx_if_eq C (tgt := 124) dX11_isOwn_113 (by decide) (fun _ => ?_) (fun _ => ?_)
                            · exact RX.loc (w_X11_isOwn_124 C σ) [] rfl
                            · refine rx_lload_n C 1 dX11_isOwn_116 rfl rfl ?_
                              refine rx_ldc2_w C lk_X11_287 dX11_isOwn_117 ?_
                              refine rx_lcmp C dX11_isOwn_120 ?_
                              refine rx_if_ne C (tgt := 126) dX11_isOwn_121 (by decide) (fun _ => ?_) (fun _ => ?_)
                              · exact RX.loc (w_X11_isOwn_124 C σ) [] rfl
                              · refine rx_lload_n C 1 dX11_isOwn_126 rfl rfl ?_
                                refine rx_ldc2_w C lk_X11_289 dX11_isOwn_127 ?_
                                refine rx_lcmp C dX11_isOwn_130 ?_
                                refine rx_if_eq C (tgt := 166) dX11_isOwn_131 (by decide) (fun _ => ?_) (fun _ => ?_)
                                · exact RX.loc (w_X11_isOwn_166 C σ) [] rfl
                                · refine rx_lload_n C 1 dX11_isOwn_134 rfl rfl ?_
                                  refine rx_ldc2_w C lk_X11_291 dX11_isOwn_135 ?_
                                  refine rx_lcmp C dX11_isOwn_138 ?_
                                  refine rx_if_eq C (tgt := 166) dX11_isOwn_139 (by decide) (fun _ => ?_) (fun _ => ?_)
                                  · exact RX.loc (w_X11_isOwn_166 C σ) [] rfl
                                  · refine rx_lload_n C 1 dX11_isOwn_142 rfl rfl ?_
                                    refine rx_ldc2_w C lk_X11_293 dX11_isOwn_143 ?_
                                    refine rx_lcmp C dX11_isOwn_146 ?_
                                    refine rx_if_eq C (tgt := 166) dX11_isOwn_147 (by decide) (fun _ => ?_) (fun _ => ?_)
                                    · exact RX.loc (w_X11_isOwn_166 C σ) [] rfl
                                    · refine rx_lload_n C 1 dX11_isOwn_150 rfl rfl ?_
                                      refine rx_ldc2_w C lk_X11_295 dX11_isOwn_151 ?_
                                      refine rx_lcmp C dX11_isOwn_154 ?_
                                      refine rx_if_eq C (tgt := 166) dX11_isOwn_155 (by decide) (fun _ => ?_) (fun _ => ?_)
                                      · exact RX.loc (w_X11_isOwn_166 C σ) [] rfl
                                      · refine rx_lload_n C 1 dX11_isOwn_158 rfl rfl ?_
                                        refine rx_ldc2_w C lk_X11_297 dX11_isOwn_159 ?_
                                        refine rx_lcmp C dX11_isOwn_162 ?_
                                        refine rx_if_ne C (tgt := 168) dX11_isOwn_163 (by decide) (fun _ => ?_) (fun _ => ?_)
                                        · exact RX.loc (w_X11_isOwn_166 C σ) [] rfl
                                        · refine rx_lload_n C 1 dX11_isOwn_168 rfl rfl ?_
                                          refine rx_ldc2_w C lk_X11_299 dX11_isOwn_169 ?_
                                          refine rx_lcmp C dX11_isOwn_172 ?_
                                          refine rx_if_eq C (tgt := 192) dX11_isOwn_173 (by decide) (fun _ => ?_) (fun _ => ?_)
                                          · exact RX.loc (w_X11_isOwn_192 C σ) [] rfl
                                          · refine rx_lload_n C 1 dX11_isOwn_176 rfl rfl ?_
                                            refine rx_ldc2_w C lk_X11_301 dX11_isOwn_177 ?_
                                            refine rx_lcmp C dX11_isOwn_180 ?_
                                            refine rx_if_eq C (tgt := 192) dX11_isOwn_181 (by decide) (fun _ => ?_) (fun _ => ?_)
                                            · exact RX.loc (w_X11_isOwn_192 C σ) [] rfl
                                            · refine rx_lload_n C 1 dX11_isOwn_184 rfl rfl ?_
                                              refine rx_ldc2_w C lk_X11_303 dX11_isOwn_185 ?_
                                              refine rx_lcmp C dX11_isOwn_188 ?_
                                              refine rx_if_ne C (tgt := 194) dX11_isOwn_189 (by decide) (fun _ => ?_) (fun _ => ?_)
                                              · exact RX.loc (w_X11_isOwn_192 C σ) [] rfl
                                              · refine rx_iconst C dX11_isOwn_194 ic_0 ?_
                                                exact rx_zretC C dX11_isOwn_195 rfl
theorem m_X11_isOwn (l : Launch) {α : Nat → Nat} {D : va_G} {cA : Nat → ClassId} (hin : inj shM.length α) (y1 : Int64) (σ : St) : CT shM l yX11_isOwn cX11_isOwn 3 (some .boolean) 0 0 emI α D cA [.ref (α 0), .long y1] σ (f_X11_isOwn y1 σ) := ct_of rfl (Nat.le_of_ble_eq_true rfl) hin (fun z _ C => w_X11_isOwn_e C y1 σ)
set_option maxRecDepth 100000 in
set_option maxHeartbeats 4000000 in
theorem w_X11_nameOf_47 {α : Nat → Nat} {D : va_G} {cA : Nat → ClassId} {z : Cz} (C : CX shM α D cA z RX11 cX11_nameOf 4 (some .long) 0 0) (t0 : Int64) (σ : St) : RX emL shM α D cA z 4 σ 47 [] [.long t0] (f_X11_nameOf_47 t0 σ) := by
  unfold f_X11_nameOf_47
  exact rx_lret C dX11_nameOf_47
set_option maxRecDepth 100000 in
set_option maxHeartbeats 4000000 in
theorem w_X11_nameOf_e {α : Nat → Nat} {D : va_G} {cA : Nat → ClassId} {z : Cz} (C : CX shM α D cA z RX11 cX11_nameOf 4 (some .long) 0 0) (x1 : Int32) (x2 : Int32) (x3 : Int32) (σ : St) : RX emL shM α D cA z 4 σ 0 [(0, .ref (α 0)), (1, .int x1), (2, .int x2), (3, .int x3)] [] (f_X11_nameOf x1 x2 x3 σ) := by
  unfold f_X11_nameOf
  refine rx_iload_n C 2 dX11_nameOf_0 rfl rfl ?_
  refine rx_if_ne C (tgt := 18) dX11_nameOf_1 (by decide) (fun _ => ?_) (fun _ => ?_)
  · refine rx_aload_n C 0 dX11_nameOf_4 rfl rfl ?_
    refine rx_getC C (k := 15) sm_0 fc_X11 (by decide) 4 rfl lk_X11_57 dX11_nameOf_5 ?_
    refine rx_bipush C dX11_nameOf_8 bp_8 ?_
    refine rx_iload_n C 1 dX11_nameOf_10 rfl rfl ?_
    refine rx_imul C dX11_nameOf_11 ?_
    refine rx_iload_n C 3 dX11_nameOf_12 rfl rfl ?_
    refine rx_iadd C dX11_nameOf_13 ?_
    refine rx_lald C (n := 16) sm_4 dX11_nameOf_14 (fun _ => ?_)
    refine rx_goto C (tgt := 47) dX11_nameOf_15 (by decide) ?_
    exact RX.loc (w_X11_nameOf_47 C (gL σ 4 (ix (((8 : Int32) * x1) + x3))) σ) [] rfl
  · refine rx_iload_n C 2 dX11_nameOf_18 rfl rfl ?_
    refine rx_iconst C dX11_nameOf_19 ic_1 ?_
    refine rx_icmp_ne C (tgt := 37) dX11_nameOf_20 (by decide) (fun _ => ?_) (fun _ => ?_)
    · refine rx_aload_n C 0 dX11_nameOf_23 rfl rfl ?_
      refine rx_getC C (k := 21) sm_0 fc_X11 (by decide) 10 rfl lk_X11_76 dX11_nameOf_24 ?_
      refine rx_bipush C dX11_nameOf_27 bp_12 ?_
      refine rx_iload_n C 1 dX11_nameOf_29 rfl rfl ?_
      refine rx_imul C dX11_nameOf_30 ?_
      refine rx_iload_n C 3 dX11_nameOf_31 rfl rfl ?_
      refine rx_iadd C dX11_nameOf_32 ?_
      refine rx_lald C (n := 24) sm_10 dX11_nameOf_33 (fun _ => ?_)
      refine rx_goto C (tgt := 47) dX11_nameOf_34 (by decide) ?_
      exact RX.loc (w_X11_nameOf_47 C (gL σ 10 (ix (((12 : Int32) * x1) + x3))) σ) [] rfl
    · refine rx_aload_n C 0 dX11_nameOf_37 rfl rfl ?_
      refine rx_getC C (k := 32) sm_0 fc_X11 (by decide) 21 rfl lk_X11_109 dX11_nameOf_38 ?_
      refine rx_iconst C dX11_nameOf_41 ic_4 ?_
      refine rx_iload_n C 1 dX11_nameOf_42 rfl rfl ?_
      refine rx_imul C dX11_nameOf_43 ?_
      refine rx_iload_n C 3 dX11_nameOf_44 rfl rfl ?_
      refine rx_iadd C dX11_nameOf_45 ?_
      refine rx_lald C (n := 8) sm_21 dX11_nameOf_46 (fun _ => ?_)
      exact RX.loc (w_X11_nameOf_47 C (gL σ 21 (ix (((4 : Int32) * x1) + x3))) σ) [] rfl
theorem m_X11_nameOf (l : Launch) {α : Nat → Nat} {D : va_G} {cA : Nat → ClassId} (hin : inj shM.length α) (x1 : Int32) (x2 : Int32) (x3 : Int32) (σ : St) : CT shM l yX11_nameOf cX11_nameOf 4 (some .long) 0 0 emL α D cA [.ref (α 0), .int x1, .int x2, .int x3] σ (f_X11_nameOf x1 x2 x3 σ) := ct_of rfl (Nat.le_of_ble_eq_true rfl) hin (fun z _ C => w_X11_nameOf_e C x1 x2 x3 σ)
set_option maxRecDepth 100000 in
set_option maxHeartbeats 4000000 in
theorem w_X11_named_47 {α : Nat → Nat} {D : va_G} {cA : Nat → ClassId} {z : Cz} (C : CX shM α D cA z RX11 cX11_named 6 (some .int) 1 23) : ∀ (n : Nat) (x1 : Int32) (y2 : Int64) (x4 : Int32) (x5 : Int32) (σ : St), RX emI shM α D cA z 6 σ 47 [(0, .ref (α 0)), (1, .int x1), (2, .long y2), (4, .int x4), (5, .int x5)] [] (f_X11_named_47 n x1 y2 x4 x5 σ) := by
  intro n
  induction n with
  | zero => intros; exact rx_none
  | succ n hk_47 =>
    intro x1 y2 x4 x5 σ
    rw [f_X11_named_47.eq_2]
    refine rx_iload C 4 dX11_named_47 rfl ?_
    refine rx_iload C 3 dX11_named_49 rfl ?_
    refine rx_icmp_ge C (tgt := 79) dX11_named_51 (by decide) (fun _ => ?_) (fun _ => ?_)
    · refine rx_iconst C dX11_named_79 ic_m1 ?_
      exact rx_iret C dX11_named_80
    · refine rx_aload_n C 0 dX11_named_54 rfl rfl ?_
      refine rx_aload_n C 0 dX11_named_55 rfl rfl ?_
      refine rx_getI C (k := 38) sm_0 fc_X11 (by decide) rfl lk_X11_127 dX11_named_56 ?_
      refine rx_iload_n C 1 dX11_named_59 rfl rfl ?_
      refine rx_iload C 4 dX11_named_60 rfl ?_
      refine rx_callVl C [.int (gI σ 0 38), .int x1, .int x5] [] (m_X11_nameOf z.l C.inj (gI σ 0 38) x1 x5 σ) mv_X11_nameOf lk_X11_305 sm_0 rfl rfl rfl (Nat.le_of_ble_eq_true rfl) ⟨Nat.le_of_ble_eq_true rfl, Nat.le_of_ble_eq_true rfl⟩ dX11_named_62 (fun q2 => ?_)
      refine rx_lload_n C 2 dX11_named_65 rfl rfl ?_
      refine rx_lcmp C dX11_named_66 ?_
      refine rx_if_ne C (tgt := 73) dX11_named_67 (by decide) (fun _ => ?_) (fun _ => ?_)
      · refine rx_iload C 4 dX11_named_70 rfl ?_
        exact rx_iret C dX11_named_72
      · refine rx_iinc C (k0 := 4) (v := x5 + (1 : Int32)) [(5, .int (x5 + (1 : Int32))), (0, .ref (α 0)), (1, .int x1), (2, .long y2), (4, .int x4)] dX11_named_73 rfl (congrArg _ ic_1) (by decide) rfl ?_
        refine rx_goto C (tgt := 47) dX11_named_76 (by decide) ?_
        exact RX.loc (hk_47 x1 y2 x4 (x5 + (1 : Int32)) q2.2) [1, 2, 3, 4, 0] rfl
set_option maxRecDepth 100000 in
set_option maxHeartbeats 4000000 in
theorem w_X11_named_42 {α : Nat → Nat} {D : va_G} {cA : Nat → ClassId} {z : Cz} (C : CX shM α D cA z RX11 cX11_named 6 (some .int) 1 23) (x1 : Int32) (y2 : Int64) (s0 : Int32) (σ : St) : RX emI shM α D cA z 6 σ 42 [(0, .ref (α 0)), (1, .int x1), (2, .long y2)] [.int s0] (f_X11_named_42 x1 y2 s0 σ) := by
  unfold f_X11_named_42
  refine rx_istore C [(4, .int s0), (0, .ref (α 0)), (1, .int x1), (2, .long y2)] dX11_named_42 (by decide) rfl ?_
  refine rx_iconst C dX11_named_44 ic_0 ?_
  refine rx_istore C [(5, .int (0 : Int32)), (4, .int s0), (0, .ref (α 0)), (1, .int x1), (2, .long y2)] dX11_named_45 (by decide) rfl ?_
  exact RX.loc (w_X11_named_47 C FU x1 y2 s0 (0 : Int32) σ) [2, 3, 4, 1, 0] rfl
set_option maxRecDepth 100000 in
set_option maxHeartbeats 4000000 in
theorem w_X11_named_e {α : Nat → Nat} {D : va_G} {cA : Nat → ClassId} {z : Cz} (C : CX shM α D cA z RX11 cX11_named 6 (some .int) 1 23) (x1 : Int32) (y2 : Int64) (σ : St) : RX emI shM α D cA z 6 σ 0 [(0, .ref (α 0)), (1, .int x1), (2, .long y2)] [] (f_X11_named x1 y2 σ) := by
  unfold f_X11_named
  refine rx_iload_n C 1 dX11_named_0 rfl rfl ?_
  refine rx_if_ne C (tgt := 16) dX11_named_1 (by decide) (fun _ => ?_) (fun _ => ?_)
  · refine rx_aload_n C 0 dX11_named_4 rfl rfl ?_
    refine rx_getC C (k := 14) sm_0 fc_X11 (by decide) 3 rfl lk_X11_54 dX11_named_5 ?_
    refine rx_aload_n C 0 dX11_named_8 rfl rfl ?_
    refine rx_getI C (k := 38) sm_0 fc_X11 (by decide) rfl lk_X11_127 dX11_named_9 ?_
    refine rx_iald C (n := 2) sm_3 dX11_named_12 (fun _ => ?_)
    refine rx_goto C (tgt := 42) dX11_named_13 (by decide) ?_
    exact RX.loc (w_X11_named_42 C x1 y2 (gI σ 3 (ix (gI σ 0 38))) σ) [0, 1, 2] rfl
  · refine rx_iload_n C 1 dX11_named_16 rfl rfl ?_
    refine rx_iconst C dX11_named_17 ic_1 ?_
    refine rx_icmp_ne C (tgt := 33) dX11_named_18 (by decide) (fun _ => ?_) (fun _ => ?_)
    · refine rx_aload_n C 0 dX11_named_21 rfl rfl ?_
      refine rx_getC C (k := 20) sm_0 fc_X11 (by decide) 9 rfl lk_X11_73 dX11_named_22 ?_
      refine rx_aload_n C 0 dX11_named_25 rfl rfl ?_
      refine rx_getI C (k := 38) sm_0 fc_X11 (by decide) rfl lk_X11_127 dX11_named_26 ?_
      refine rx_iald C (n := 2) sm_9 dX11_named_29 (fun _ => ?_)
      refine rx_goto C (tgt := 42) dX11_named_30 (by decide) ?_
      exact RX.loc (w_X11_named_42 C x1 y2 (gI σ 9 (ix (gI σ 0 38))) σ) [0, 1, 2] rfl
    · refine rx_aload_n C 0 dX11_named_33 rfl rfl ?_
      refine rx_getC C (k := 31) sm_0 fc_X11 (by decide) 20 rfl lk_X11_106 dX11_named_34 ?_
      refine rx_aload_n C 0 dX11_named_37 rfl rfl ?_
      refine rx_getI C (k := 38) sm_0 fc_X11 (by decide) rfl lk_X11_127 dX11_named_38 ?_
      refine rx_iald C (n := 2) sm_20 dX11_named_41 (fun _ => ?_)
      exact RX.loc (w_X11_named_42 C x1 y2 (gI σ 20 (ix (gI σ 0 38))) σ) [0, 1, 2] rfl
theorem m_X11_named (l : Launch) {α : Nat → Nat} {D : va_G} {cA : Nat → ClassId} (hin : inj shM.length α) (x1 : Int32) (y2 : Int64) (σ : St) : CT shM l yX11_named cX11_named 6 (some .int) 1 23 emI α D cA [.ref (α 0), .int x1, .long y2] σ (f_X11_named x1 y2 σ) := ct_of rfl (Nat.le_of_ble_eq_true rfl) hin (fun z _ C => w_X11_named_e C x1 y2 σ)
set_option maxRecDepth 100000 in
set_option maxHeartbeats 4000000 in
theorem w_X11_number_70 {α : Nat → Nat} {D : va_G} {cA : Nat → ClassId} {z : Cz} (C : CX shM α D cA z RX11 cX11_number 4 (some .int) 2 47) (x3 : Int32) (σ : St) : RX emI shM α D cA z 4 σ 70 [(3, .int x3)] [] (f_X11_number_70 x3 σ) := by
  unfold f_X11_number_70
  refine rx_iload_n C 0 dX11_number_70 rfl rfl ?_
  exact rx_iret C dX11_number_71
set_option maxRecDepth 100000 in
set_option maxHeartbeats 4000000 in
theorem w_X11_number_54 {α : Nat → Nat} {D : va_G} {cA : Nat → ClassId} {z : Cz} (C : CX shM α D cA z RX11 cX11_number 4 (some .int) 2 47) (σ : St) : RX emI shM α D cA z 4 σ 54 [(0, .ref (α 0))] [] (f_X11_number_54 σ) := by
  unfold f_X11_number_54
  refine rx_aload_n C 0 dX11_number_54 rfl rfl ?_
  refine rx_getI C (k := 6) sm_0 fc_X11 (by decide) rfl lk_X11_29 dX11_number_55 ?_
  refine rx_lti (fun w8 => ?_)
  refine rx_istore_n C [(3, .int w8), (0, .ref (α 0))] dX11_number_58 rfl (by decide) rfl ?_
  refine rx_aload_n C 1 dX11_number_59 rfl rfl ?_
  refine rx_getI C (k := 8) sm_0 fc_X11 (by decide) rfl lk_X11_36 dX11_number_60 ?_
  refine rx_if_ne C (tgt := 70) dX11_number_63 (by decide) (fun _ => ?_) (fun _ => ?_)
  · refine rx_aload_n C 1 dX11_number_66 rfl rfl ?_
    refine rx_callVv C [] [] (m_X11_ahead z.l C.inj σ) mv_X11_ahead lk_X11_256 sm_0 rfl rfl rfl (Nat.le_of_ble_eq_true rfl) ⟨Nat.le_of_ble_eq_true rfl, Nat.le_of_ble_eq_true rfl⟩ dX11_number_67 (fun q9 => ?_)
    exact RX.loc (w_X11_number_70 C w8 q9.2) [0] rfl
  · exact RX.loc (w_X11_number_70 C w8 σ) [0] rfl
set_option maxRecDepth 100000 in
set_option maxHeartbeats 4000000 in
theorem w_X11_number_26 {α : Nat → Nat} {D : va_G} {cA : Nat → ClassId} {z : Cz} (C : CX shM α D cA z RX11 cX11_number 4 (some .int) 2 47) (x1 : Int32) (x2 : Int32) (σ : St) : RX emI shM α D cA z 4 σ 26 [(0, .ref (α 0)), (1, .int x1), (2, .int x2)] [] (f_X11_number_26 x1 x2 σ) := by
  unfold f_X11_number_26
  refine rx_aload_n C 0 dX11_number_26 rfl rfl ?_
  refine rx_getI C (k := 8) sm_0 fc_X11 (by decide) rfl lk_X11_36 dX11_number_27 ?_
  refine rx_if_ne C (tgt := 54) dX11_number_30 (by decide) (fun _ => ?_) (fun _ => ?_)
  · refine rx_aload_n C 0 dX11_number_33 rfl rfl ?_
    refine rx_getI C (k := 6) sm_0 fc_X11 (by decide) rfl lk_X11_29 dX11_number_34 ?_
    refine rx_iload_n C 1 dX11_number_37 rfl rfl ?_
    refine rx_iload_n C 2 dX11_number_38 rfl rfl ?_
    refine rx_callSi C [.int (gI σ 0 6), .int x1, .int x2] [] (m_X11_is z.l C.inj (gI σ 0 6) x1 x2 σ) ms_X11_is lk_X11_309 rfl rfl (Nat.le_of_ble_eq_true rfl) ⟨Nat.le_of_ble_eq_true rfl, Nat.le_of_ble_eq_true rfl⟩ dX11_number_39 (fun q6 => ?_)
    refine rx_if_ne C (tgt := 54) dX11_number_42 (by decide) (fun _ => ?_) (fun _ => ?_)
    · refine rx_aload_n C 0 dX11_number_45 rfl rfl ?_
      refine rx_iconst C dX11_number_46 ic_4 ?_
      refine rx_aload_n C 0 dX11_number_47 rfl rfl ?_
      refine rx_getI C (k := 4) sm_0 fc_X11 (by decide) rfl lk_X11_23 dX11_number_48 ?_
      refine rx_callVv C [.int (4 : Int32), .int (gI q6.2 0 4)] [] (m_X11_blame z.l C.inj (4 : Int32) (gI q6.2 0 4) q6.2) mv_X11_blame lk_X11_249 sm_0 rfl rfl rfl (Nat.le_of_ble_eq_true rfl) ⟨Nat.le_of_ble_eq_true rfl, Nat.le_of_ble_eq_true rfl⟩ dX11_number_51 (fun q7 => ?_)
      exact RX.loc (w_X11_number_54 C q7.2) [0] rfl
    · exact RX.loc (w_X11_number_54 C q6.2) [0] rfl
  · exact RX.loc (w_X11_number_54 C σ) [0] rfl
set_option maxRecDepth 100000 in
set_option maxHeartbeats 4000000 in
theorem w_X11_number_e {α : Nat → Nat} {D : va_G} {cA : Nat → ClassId} {z : Cz} (C : CX shM α D cA z RX11 cX11_number 4 (some .int) 2 47) (x1 : Int32) (x2 : Int32) (σ : St) : RX emI shM α D cA z 4 σ 0 [(0, .ref (α 0)), (1, .int x1), (2, .int x2)] [] (f_X11_number x1 x2 σ) := by
  unfold f_X11_number
  refine rx_aload_n C 0 dX11_number_0 rfl rfl ?_
  refine rx_getI C (k := 8) sm_0 fc_X11 (by decide) rfl lk_X11_36 dX11_number_1 ?_
  refine rx_if_le C (tgt := 9) dX11_number_4 (by decide) (fun _ => ?_) (fun _ => ?_)
  · refine rx_aload_n C 0 dX11_number_9 rfl rfl ?_
    refine rx_getI C (k := 3) sm_0 fc_X11 (by decide) rfl lk_X11_20 dX11_number_10 ?_
    refine rx_iconst C dX11_number_13 ic_2 ?_
    refine rx_icmp_eq C (tgt := 26) dX11_number_14 (by decide) (fun _ => ?_) (fun _ => ?_)
    · exact RX.loc (w_X11_number_26 C x1 x2 σ) [0, 1, 2] rfl
    · refine rx_aload_n C 0 dX11_number_17 rfl rfl ?_
      refine rx_iconst C dX11_number_18 ic_1 ?_
      refine rx_aload_n C 0 dX11_number_19 rfl rfl ?_
      refine rx_getI C (k := 4) sm_0 fc_X11 (by decide) rfl lk_X11_23 dX11_number_20 ?_
      refine rx_callVv C [.int (1 : Int32), .int (gI σ 0 4)] [] (m_X11_blame z.l C.inj (1 : Int32) (gI σ 0 4) σ) mv_X11_blame lk_X11_249 sm_0 rfl rfl rfl (Nat.le_of_ble_eq_true rfl) ⟨Nat.le_of_ble_eq_true rfl, Nat.le_of_ble_eq_true rfl⟩ dX11_number_23 (fun q10 => ?_)
      exact RX.loc (w_X11_number_26 C x1 x2 q10.2) [0, 1, 2] rfl
  · refine rx_iconst C dX11_number_7 ic_0 ?_
    exact rx_iret C dX11_number_8
theorem m_X11_number (l : Launch) {α : Nat → Nat} {D : va_G} {cA : Nat → ClassId} (hin : inj shM.length α) (x1 : Int32) (x2 : Int32) (σ : St) : CT shM l yX11_number cX11_number 4 (some .int) 2 47 emI α D cA [.ref (α 0), .int x1, .int x2] σ (f_X11_number x1 x2 σ) := ct_of rfl (Nat.le_of_ble_eq_true rfl) hin (fun z _ C => w_X11_number_e C x1 x2 σ)
set_option maxRecDepth 100000 in
set_option maxHeartbeats 4000000 in
theorem w_X11_add_e {α : Nat → Nat} {D : va_G} {cA : Nat → ClassId} {z : Cz} (C : CX shM α D cA z RX11 cX11_add 3 none 0 0) (x1 : Int32) (x2 : Int32) (σ : St) : RX emV shM α D cA z 3 σ 0 [(0, .ref (α 0)), (1, .int x1), (2, .int x2)] [] (f_X11_add x1 x2 σ) := by
  unfold f_X11_add
  refine rx_aload_n C 0 dX11_add_0 rfl rfl ?_
  refine rx_getC C (k := 35) sm_0 fc_X11 (by decide) 24 rfl lk_X11_118 dX11_add_1 ?_
  refine rx_sipush C dX11_add_4 sp_1600 ?_
  refine rx_aload_n C 0 dX11_add_7 rfl rfl ?_
  refine rx_getI C (k := 38) sm_0 fc_X11 (by decide) rfl lk_X11_127 dX11_add_8 ?_
  refine rx_imul C dX11_add_11 ?_
  refine rx_aload_n C 0 dX11_add_12 rfl rfl ?_
  refine rx_getI C (k := 37) sm_0 fc_X11 (by decide) rfl lk_X11_124 dX11_add_13 ?_
  refine rx_iadd C dX11_add_16 ?_
  refine rx_iload_n C 1 dX11_add_17 rfl rfl ?_
  refine rx_iast C (n := 3200) sm_24 dX11_add_18 (fun _ => ?_)
  refine rx_lts (fun σ4 => ?_)
  refine rx_aload_n C 0 dX11_add_19 rfl rfl ?_
  refine rx_getC C (k := 36) sm_0 fc_X11 (by decide) 25 rfl lk_X11_121 dX11_add_20 ?_
  refine rx_sipush C dX11_add_23 sp_1600 ?_
  refine rx_aload_n C 0 dX11_add_26 rfl rfl ?_
  refine rx_getI C (k := 38) sm_0 fc_X11 (by decide) rfl lk_X11_127 dX11_add_27 ?_
  refine rx_imul C dX11_add_30 ?_
  refine rx_aload_n C 0 dX11_add_31 rfl rfl ?_
  refine rx_getI C (k := 37) sm_0 fc_X11 (by decide) rfl lk_X11_124 dX11_add_32 ?_
  refine rx_iadd C dX11_add_35 ?_
  refine rx_iload_n C 2 dX11_add_36 rfl rfl ?_
  refine rx_iast C (n := 3200) sm_25 dX11_add_37 (fun _ => ?_)
  refine rx_lts (fun σ5 => ?_)
  refine rx_aload_n C 0 dX11_add_38 rfl rfl ?_
  refine rx_dup C dX11_add_39 rfl ?_
  refine rx_getI C (k := 37) sm_0 fc_X11 (by decide) rfl lk_X11_124 dX11_add_40 ?_
  refine rx_iconst C dX11_add_43 ic_1 ?_
  refine rx_iadd C dX11_add_44 ?_
  refine rx_putI C (k := 37) sm_0 fc_X11 (by decide) rfl lk_X11_124 rfl ⟨rfl, rfl⟩ dX11_add_45 ?_
  refine rx_lts (fun σ6 => ?_)
  exact rx_vret C dX11_add_48
theorem m_X11_add (l : Launch) {α : Nat → Nat} {D : va_G} {cA : Nat → ClassId} (hin : inj shM.length α) (x1 : Int32) (x2 : Int32) (σ : St) : CT shM l yX11_add cX11_add 3 none 0 0 emV α D cA [.ref (α 0), .int x1, .int x2] σ (f_X11_add x1 x2 σ) := ct_of rfl (Nat.le_of_ble_eq_true rfl) hin (fun z _ C => w_X11_add_e C x1 x2 σ)
set_option maxRecDepth 100000 in
set_option maxHeartbeats 4000000 in
theorem w_X11_rank_70 {α : Nat → Nat} {D : va_G} {cA : Nat → ClassId} {z : Cz} (C : CX shM α D cA z RX11 cX11_rank 1 (some .int) 0 0) (s0 : Int32) (σ : St) : RX emI shM α D cA z 1 σ 70 [] [.int s0] (f_X11_rank_70 s0 σ) := by
  unfold f_X11_rank_70
  exact rx_iret C dX11_rank_70
set_option maxRecDepth 100000 in
set_option maxHeartbeats 4000000 in
theorem w_X11_rank_48 {α : Nat → Nat} {D : va_G} {cA : Nat → ClassId} {z : Cz} (C : CX shM α D cA z RX11 cX11_rank 1 (some .int) 0 0) (σ : St) : RX emI shM α D cA z 1 σ 48 [] [] (f_X11_rank_48 σ) := by
  unfold f_X11_rank_48
  refine rx_iconst C dX11_rank_48 ic_4 ?_
  refine rx_goto C (tgt := 70) dX11_rank_49 (by decide) ?_
  exact RX.loc (w_X11_rank_70 C (4 : Int32) σ) [] rfl
set_option maxRecDepth 100000 in
set_option maxHeartbeats 4000000 in
theorem w_X11_rank_64 {α : Nat → Nat} {D : va_G} {cA : Nat → ClassId} {z : Cz} (C : CX shM α D cA z RX11 cX11_rank 1 (some .int) 0 0) (σ : St) : RX emI shM α D cA z 1 σ 64 [] [] (f_X11_rank_64 σ) := by
  unfold f_X11_rank_64
  refine rx_iconst C dX11_rank_64 ic_5 ?_
  refine rx_goto C (tgt := 70) dX11_rank_65 (by decide) ?_
  exact RX.loc (w_X11_rank_70 C (5 : Int32) σ) [] rfl
set_option maxRecDepth 100000 in
set_option maxHeartbeats 4000000 in
theorem w_X11_rank_e {α : Nat → Nat} {D : va_G} {cA : Nat → ClassId} {z : Cz} (C : CX shM α D cA z RX11 cX11_rank 1 (some .int) 0 0) (x0 : Int32) (σ : St) : RX emI shM α D cA z 1 σ 0 [(0, .int x0)] [] (f_X11_rank x0 σ) := by
  unfold f_X11_rank
  refine rx_iload_n C 0 dX11_rank_0 rfl rfl ?_
  refine rx_bipush C dX11_rank_1 bp_21 ?_
  refine rx_icmp_ne C (tgt := 10) dX11_rank_3 (by decide) (fun _ => ?_) (fun _ => ?_)
  · refine rx_iconst C dX11_rank_6 ic_1 ?_
    refine rx_goto C (tgt := 70) dX11_rank_7 (by decide) ?_
    exact RX.loc (w_X11_rank_70 C (1 : Int32) σ) [] rfl
  · refine rx_iload_n C 0 dX11_rank_10 rfl rfl ?_
    refine rx_bipush C dX11_rank_11 bp_20 ?_
    refine rx_icmp_ne C (tgt := 20) dX11_rank_13 (by decide) (fun _ => ?_) (fun _ => ?_)
    · refine rx_iconst C dX11_rank_16 ic_2 ?_
      refine rx_goto C (tgt := 70) dX11_rank_17 (by decide) ?_
      exact RX.loc (w_X11_rank_70 C (2 : Int32) σ) [] rfl
    · refine rx_iload_n C 0 dX11_rank_20 rfl rfl ?_
      refine rx_bipush C dX11_rank_21 bp_22 ?_
      refine rx_icmp_ne C (tgt := 30) dX11_rank_23 (by decide) (fun _ => ?_) (fun _ => ?_)
      · refine rx_iconst C dX11_rank_26 ic_3 ?_
        refine rx_goto C (tgt := 70) dX11_rank_27 (by decide) ?_
        exact RX.loc (w_X11_rank_70 C (3 : Int32) σ) [] rfl
      · refine rx_iload_n C 0 dX11_rank_30 rfl rfl ?_
        refine rx_bipush C dX11_rank_31 bp_17 ?_
        refine rx_icmp_eq C (tgt := 48) dX11_rank_33 (by decide) (fun _ => ?_) (fun _ => ?_)
        · exact RX.loc (w_X11_rank_48 C σ) [] rfl
        · refine rx_iload_n C 0 dX11_rank_36 rfl rfl ?_
          refine rx_bipush C dX11_rank_37 bp_18 ?_
          refine rx_icmp_eq C (tgt := 48) dX11_rank_39 (by decide) (fun _ => ?_) (fun _ => ?_)
          · exact RX.loc (w_X11_rank_48 C σ) [] rfl
          · refine rx_iload_n C 0 dX11_rank_42 rfl rfl ?_
            refine rx_bipush C dX11_rank_43 bp_19 ?_
            refine rx_icmp_ne C (tgt := 52) dX11_rank_45 (by decide) (fun _ => ?_) (fun _ => ?_)
            · exact RX.loc (w_X11_rank_48 C σ) [] rfl
            · refine rx_iload_n C 0 dX11_rank_52 rfl rfl ?_
              refine rx_bipush C dX11_rank_53 bp_10 ?_
              refine rx_icmp_eq C (tgt := 64) dX11_rank_55 (by decide) (fun _ => ?_) (fun _ => ?_)
              · exact RX.loc (w_X11_rank_64 C σ) [] rfl
              · refine rx_iload_n C 0 dX11_rank_58 rfl rfl ?_
                refine rx_bipush C dX11_rank_59 bp_11 ?_
                refine rx_icmp_ne C (tgt := 68) dX11_rank_61 (by decide) (fun _ => ?_) (fun _ => ?_)
                · exact RX.loc (w_X11_rank_64 C σ) [] rfl
                · refine rx_bipush C dX11_rank_68 bp_6 ?_
                  exact RX.loc (w_X11_rank_70 C (6 : Int32) σ) [] rfl
theorem m_X11_rank (l : Launch) {α : Nat → Nat} {D : va_G} {cA : Nat → ClassId} (hin : inj shM.length α) (x0 : Int32) (σ : St) : CT shM l yX11_rank cX11_rank 1 (some .int) 0 0 emI α D cA [.int x0] σ (f_X11_rank x0 σ) := ct_of rfl (Nat.le_of_ble_eq_true rfl) hin (fun z _ C => w_X11_rank_e C x0 σ)
set_option maxRecDepth 100000 in
set_option maxHeartbeats 4000000 in
theorem w_X11_joins_63 {α : Nat → Nat} {D : va_G} {cA : Nat → ClassId} {z : Cz} (C : CX shM α D cA z RX11 cX11_joins 2 none 1 22) (σ : St) : RX emV shM α D cA z 2 σ 63 [] [] (f_X11_joins_63 σ) := by
  unfold f_X11_joins_63
  exact rx_vret C dX11_joins_63
set_option maxRecDepth 100000 in
set_option maxHeartbeats 4000000 in
theorem w_X11_joins_0 {α : Nat → Nat} {D : va_G} {cA : Nat → ClassId} {z : Cz} (C : CX shM α D cA z RX11 cX11_joins 2 none 1 22) : ∀ (n : Nat) (x1 : Int32) (σ : St), RX emV shM α D cA z 2 σ 0 [(0, .ref (α 0)), (1, .int x1)] [] (f_X11_joins_0 n x1 σ) := by
  intro n
  induction n with
  | zero => intros; exact rx_none
  | succ n hk_0 =>
    intro x1 σ
    rw [f_X11_joins_0.eq_2]
    refine rx_aload_n C 0 dX11_joins_0 rfl rfl ?_
    refine rx_getI C (k := 47) sm_0 fc_X11 (by decide) rfl lk_X11_155 dX11_joins_1 ?_
    refine rx_aload_n C 0 dX11_joins_4 rfl rfl ?_
    refine rx_getC C (k := 43) sm_0 fc_X11 (by decide) 30 rfl lk_X11_143 dX11_joins_5 ?_
    refine rx_aload_n C 0 dX11_joins_8 rfl rfl ?_
    refine rx_getI C (k := 44) sm_0 fc_X11 (by decide) rfl lk_X11_146 dX11_joins_9 ?_
    refine rx_iconst C dX11_joins_12 ic_1 ?_
    refine rx_isub C dX11_joins_13 ?_
    refine rx_iald C (n := 20) sm_30 dX11_joins_14 (fun _ => ?_)
    refine rx_icmp_le C (tgt := 63) dX11_joins_15 (by decide) (fun _ => ?_) (fun _ => ?_)
    · exact RX.loc (w_X11_joins_63 C σ) [] rfl
    · refine rx_aload_n C 0 dX11_joins_18 rfl rfl ?_
      refine rx_getC C (k := 46) sm_0 fc_X11 (by decide) 31 rfl lk_X11_152 dX11_joins_19 ?_
      refine rx_aload_n C 0 dX11_joins_22 rfl rfl ?_
      refine rx_getI C (k := 47) sm_0 fc_X11 (by decide) rfl lk_X11_155 dX11_joins_23 ?_
      refine rx_iconst C dX11_joins_26 ic_1 ?_
      refine rx_isub C dX11_joins_27 ?_
      refine rx_iald C (n := 500) sm_31 dX11_joins_28 (fun _ => ?_)
      refine rx_callSi C [.int (gI σ 31 (ix ((gI σ 0 47) - (1 : Int32))))] [] (m_X11_rank z.l C.inj (gI σ 31 (ix ((gI σ 0 47) - (1 : Int32)))) σ) ms_X11_rank lk_X11_313 rfl rfl (Nat.le_of_ble_eq_true rfl) ⟨Nat.le_of_ble_eq_true rfl, Nat.le_of_ble_eq_true rfl⟩ dX11_joins_29 (fun q7 => ?_)
      refine rx_iload_n C 1 dX11_joins_32 rfl rfl ?_
      refine rx_icmp_lt C (tgt := 63) dX11_joins_33 (by decide) (fun _ => ?_) (fun _ => ?_)
      · exact RX.loc (w_X11_joins_63 C q7.2) [] rfl
      · refine rx_aload_n C 0 dX11_joins_36 rfl rfl ?_
        refine rx_dup C dX11_joins_37 rfl ?_
        refine rx_getI C (k := 47) sm_0 fc_X11 (by decide) rfl lk_X11_155 dX11_joins_38 ?_
        refine rx_iconst C dX11_joins_41 ic_1 ?_
        refine rx_isub C dX11_joins_42 ?_
        refine rx_putI C (k := 47) sm_0 fc_X11 (by decide) rfl lk_X11_155 rfl ⟨rfl, rfl⟩ dX11_joins_43 ?_
        refine rx_lts (fun σ8 => ?_)
        refine rx_aload_n C 0 dX11_joins_46 rfl rfl ?_
        refine rx_aload_n C 0 dX11_joins_47 rfl rfl ?_
        refine rx_getC C (k := 46) sm_0 fc_X11 (by decide) 31 rfl lk_X11_152 dX11_joins_48 ?_
        refine rx_aload_n C 0 dX11_joins_51 rfl rfl ?_
        refine rx_getI C (k := 47) sm_0 fc_X11 (by decide) rfl lk_X11_155 dX11_joins_52 ?_
        refine rx_iald C (n := 500) sm_31 dX11_joins_55 (fun _ => ?_)
        refine rx_iconst C dX11_joins_56 ic_0 ?_
        refine rx_callVv C [.int (gI σ8 31 (ix (gI σ8 0 47))), .int (0 : Int32)] [] (m_X11_add z.l C.inj (gI σ8 31 (ix (gI σ8 0 47))) (0 : Int32) σ8) mv_X11_add lk_X11_316 sm_0 rfl rfl rfl (Nat.le_of_ble_eq_true rfl) ⟨Nat.le_of_ble_eq_true rfl, Nat.le_of_ble_eq_true rfl⟩ dX11_joins_57 (fun q9 => ?_)
        refine rx_goto C (tgt := 0) dX11_joins_60 (by decide) ?_
        exact RX.loc (hk_0 x1 q9.2) [0, 1] rfl
set_option maxRecDepth 100000 in
set_option maxHeartbeats 4000000 in
theorem w_X11_joins_e {α : Nat → Nat} {D : va_G} {cA : Nat → ClassId} {z : Cz} (C : CX shM α D cA z RX11 cX11_joins 2 none 1 22) (x1 : Int32) (σ : St) : RX emV shM α D cA z 2 σ 0 [(0, .ref (α 0)), (1, .int x1)] [] (f_X11_joins x1 σ) := by
  unfold f_X11_joins
  exact RX.loc (w_X11_joins_0 C FU x1 σ) [0, 1] rfl
theorem m_X11_joins (l : Launch) {α : Nat → Nat} {D : va_G} {cA : Nat → ClassId} (hin : inj shM.length α) (x1 : Int32) (σ : St) : CT shM l yX11_joins cX11_joins 2 none 1 22 emV α D cA [.ref (α 0), .int x1] σ (f_X11_joins x1 σ) := ct_of rfl (Nat.le_of_ble_eq_true rfl) hin (fun z _ C => w_X11_joins_e C x1 σ)
set_option maxRecDepth 100000 in
set_option maxHeartbeats 4000000 in
theorem w_X11_holdsBack_e {α : Nat → Nat} {D : va_G} {cA : Nat → ClassId} {z : Cz} (C : CX shM α D cA z RX11 cX11_holdsBack 2 none 0 0) (x1 : Int32) (σ : St) : RX emV shM α D cA z 2 σ 0 [(0, .ref (α 0)), (1, .int x1)] [] (f_X11_holdsBack x1 σ) := by
  unfold f_X11_holdsBack
  refine rx_aload_n C 0 dX11_holdsBack_0 rfl rfl ?_
  refine rx_getC C (k := 46) sm_0 fc_X11 (by decide) 31 rfl lk_X11_152 dX11_holdsBack_1 ?_
  refine rx_aload_n C 0 dX11_holdsBack_4 rfl rfl ?_
  refine rx_getI C (k := 47) sm_0 fc_X11 (by decide) rfl lk_X11_155 dX11_holdsBack_5 ?_
  refine rx_iload_n C 1 dX11_holdsBack_8 rfl rfl ?_
  refine rx_iast C (n := 500) sm_31 dX11_holdsBack_9 (fun _ => ?_)
  refine rx_lts (fun σ3 => ?_)
  refine rx_aload_n C 0 dX11_holdsBack_10 rfl rfl ?_
  refine rx_dup C dX11_holdsBack_11 rfl ?_
  refine rx_getI C (k := 47) sm_0 fc_X11 (by decide) rfl lk_X11_155 dX11_holdsBack_12 ?_
  refine rx_iconst C dX11_holdsBack_15 ic_1 ?_
  refine rx_iadd C dX11_holdsBack_16 ?_
  refine rx_putI C (k := 47) sm_0 fc_X11 (by decide) rfl lk_X11_155 rfl ⟨rfl, rfl⟩ dX11_holdsBack_17 ?_
  refine rx_lts (fun σ4 => ?_)
  exact rx_vret C dX11_holdsBack_20
theorem m_X11_holdsBack (l : Launch) {α : Nat → Nat} {D : va_G} {cA : Nat → ClassId} (hin : inj shM.length α) (x1 : Int32) (σ : St) : CT shM l yX11_holdsBack cX11_holdsBack 2 none 0 0 emV α D cA [.ref (α 0), .int x1] σ (f_X11_holdsBack x1 σ) := ct_of rfl (Nat.le_of_ble_eq_true rfl) hin (fun z _ C => w_X11_holdsBack_e C x1 σ)
set_option maxRecDepth 100000 in
set_option maxHeartbeats 4000000 in
theorem w_X11_pushes_e {α : Nat → Nat} {D : va_G} {cA : Nat → ClassId} {z : Cz} (C : CX shM α D cA z RX11 cX11_pushes 2 none 0 0) (x1 : Int32) (σ : St) : RX emV shM α D cA z 2 σ 0 [(0, .ref (α 0)), (1, .int x1)] [] (f_X11_pushes x1 σ) := by
  unfold f_X11_pushes
  refine rx_aload_n C 0 dX11_pushes_0 rfl rfl ?_
  refine rx_getC C (k := 39) sm_0 fc_X11 (by decide) 26 rfl lk_X11_130 dX11_pushes_1 ?_
  refine rx_aload_n C 0 dX11_pushes_4 rfl rfl ?_
  refine rx_getI C (k := 44) sm_0 fc_X11 (by decide) rfl lk_X11_146 dX11_pushes_5 ?_
  refine rx_iload_n C 1 dX11_pushes_8 rfl rfl ?_
  refine rx_iast C (n := 20) sm_26 dX11_pushes_9 (fun _ => ?_)
  refine rx_lts (fun σ6 => ?_)
  refine rx_aload_n C 0 dX11_pushes_10 rfl rfl ?_
  refine rx_getC C (k := 40) sm_0 fc_X11 (by decide) 27 rfl lk_X11_133 dX11_pushes_11 ?_
  refine rx_aload_n C 0 dX11_pushes_14 rfl rfl ?_
  refine rx_getI C (k := 44) sm_0 fc_X11 (by decide) rfl lk_X11_146 dX11_pushes_15 ?_
  refine rx_iconst C dX11_pushes_18 ic_0 ?_
  refine rx_iast C (n := 20) sm_27 dX11_pushes_19 (fun _ => ?_)
  refine rx_lts (fun σ7 => ?_)
  refine rx_aload_n C 0 dX11_pushes_20 rfl rfl ?_
  refine rx_getC C (k := 41) sm_0 fc_X11 (by decide) 28 rfl lk_X11_136 dX11_pushes_21 ?_
  refine rx_aload_n C 0 dX11_pushes_24 rfl rfl ?_
  refine rx_getI C (k := 44) sm_0 fc_X11 (by decide) rfl lk_X11_146 dX11_pushes_25 ?_
  refine rx_iconst C dX11_pushes_28 ic_1 ?_
  refine rx_zast C (n := 20) sm_28 dX11_pushes_29 (fun _ => ?_)
  refine rx_lts (fun σ8 => ?_)
  refine rx_aload_n C 0 dX11_pushes_30 rfl rfl ?_
  refine rx_getC C (k := 43) sm_0 fc_X11 (by decide) 30 rfl lk_X11_143 dX11_pushes_31 ?_
  refine rx_aload_n C 0 dX11_pushes_34 rfl rfl ?_
  refine rx_getI C (k := 44) sm_0 fc_X11 (by decide) rfl lk_X11_146 dX11_pushes_35 ?_
  refine rx_aload_n C 0 dX11_pushes_38 rfl rfl ?_
  refine rx_getI C (k := 47) sm_0 fc_X11 (by decide) rfl lk_X11_155 dX11_pushes_39 ?_
  refine rx_iast C (n := 20) sm_30 dX11_pushes_42 (fun _ => ?_)
  refine rx_lts (fun σ9 => ?_)
  refine rx_aload_n C 0 dX11_pushes_43 rfl rfl ?_
  refine rx_dup C dX11_pushes_44 rfl ?_
  refine rx_getI C (k := 44) sm_0 fc_X11 (by decide) rfl lk_X11_146 dX11_pushes_45 ?_
  refine rx_iconst C dX11_pushes_48 ic_1 ?_
  refine rx_iadd C dX11_pushes_49 ?_
  refine rx_putI C (k := 44) sm_0 fc_X11 (by decide) rfl lk_X11_146 rfl ⟨rfl, rfl⟩ dX11_pushes_50 ?_
  refine rx_lts (fun σ10 => ?_)
  exact rx_vret C dX11_pushes_53
theorem m_X11_pushes (l : Launch) {α : Nat → Nat} {D : va_G} {cA : Nat → ClassId} (hin : inj shM.length α) (x1 : Int32) (σ : St) : CT shM l yX11_pushes cX11_pushes 2 none 0 0 emV α D cA [.ref (α 0), .int x1] σ (f_X11_pushes x1 σ) := ct_of rfl (Nat.le_of_ble_eq_true rfl) hin (fun z _ C => w_X11_pushes_e C x1 σ)
set_option maxRecDepth 100000 in
set_option maxHeartbeats 4000000 in
theorem w_X11_opens_18 {α : Nat → Nat} {D : va_G} {cA : Nat → ClassId} {z : Cz} (C : CX shM α D cA z RX11 cX11_opens 2 none 2 47) (x1 : Int32) (σ : St) : RX emV shM α D cA z 2 σ 18 [(0, .ref (α 0)), (1, .int x1)] [] (f_X11_opens_18 x1 σ) := by
  unfold f_X11_opens_18
  refine rx_aload_n C 0 dX11_opens_18 rfl rfl ?_
  refine rx_getI C (k := 8) sm_0 fc_X11 (by decide) rfl lk_X11_36 dX11_opens_19 ?_
  refine rx_if_le C (tgt := 26) dX11_opens_22 (by decide) (fun _ => ?_) (fun _ => ?_)
  · refine rx_aload_n C 0 dX11_opens_26 rfl rfl ?_
    refine rx_dup C dX11_opens_27 rfl ?_
    refine rx_getI C (k := 45) sm_0 fc_X11 (by decide) rfl lk_X11_149 dX11_opens_28 ?_
    refine rx_iconst C dX11_opens_31 ic_1 ?_
    refine rx_iadd C dX11_opens_32 ?_
    refine rx_putI C (k := 45) sm_0 fc_X11 (by decide) rfl lk_X11_149 rfl ⟨rfl, rfl⟩ dX11_opens_33 ?_
    refine rx_lts (fun σ6 => ?_)
    refine rx_aload_n C 0 dX11_opens_36 rfl rfl ?_
    refine rx_callVv C [] [] (m_X11_ahead z.l C.inj σ6) mv_X11_ahead lk_X11_256 sm_0 rfl rfl rfl (Nat.le_of_ble_eq_true rfl) ⟨Nat.le_of_ble_eq_true rfl, Nat.le_of_ble_eq_true rfl⟩ dX11_opens_37 (fun q7 => ?_)
    refine rx_aload_n C 0 dX11_opens_40 rfl rfl ?_
    refine rx_iload_n C 1 dX11_opens_41 rfl rfl ?_
    refine rx_callVv C [.int x1] [] (m_X11_pushes z.l C.inj x1 q7.2) mv_X11_pushes lk_X11_319 sm_0 rfl rfl rfl (Nat.le_of_ble_eq_true rfl) ⟨Nat.le_of_ble_eq_true rfl, Nat.le_of_ble_eq_true rfl⟩ dX11_opens_42 (fun q8 => ?_)
    exact rx_vret C dX11_opens_45
  · exact rx_vret C dX11_opens_25
set_option maxRecDepth 100000 in
set_option maxHeartbeats 4000000 in
theorem w_X11_opens_e {α : Nat → Nat} {D : va_G} {cA : Nat → ClassId} {z : Cz} (C : CX shM α D cA z RX11 cX11_opens 2 none 2 47) (x1 : Int32) (σ : St) : RX emV shM α D cA z 2 σ 0 [(0, .ref (α 0)), (1, .int x1)] [] (f_X11_opens x1 σ) := by
  unfold f_X11_opens
  refine rx_aload_n C 0 dX11_opens_0 rfl rfl ?_
  refine rx_getI C (k := 45) sm_0 fc_X11 (by decide) rfl lk_X11_149 dX11_opens_1 ?_
  refine rx_bipush C dX11_opens_4 bp_8 ?_
  refine rx_icmp_ne C (tgt := 18) dX11_opens_6 (by decide) (fun _ => ?_) (fun _ => ?_)
  · refine rx_aload_n C 0 dX11_opens_9 rfl rfl ?_
    refine rx_iconst C dX11_opens_10 ic_5 ?_
    refine rx_aload_n C 0 dX11_opens_11 rfl rfl ?_
    refine rx_getI C (k := 4) sm_0 fc_X11 (by decide) rfl lk_X11_23 dX11_opens_12 ?_
    refine rx_callVv C [.int (5 : Int32), .int (gI σ 0 4)] [] (m_X11_blame z.l C.inj (5 : Int32) (gI σ 0 4) σ) mv_X11_blame lk_X11_249 sm_0 rfl rfl rfl (Nat.le_of_ble_eq_true rfl) ⟨Nat.le_of_ble_eq_true rfl, Nat.le_of_ble_eq_true rfl⟩ dX11_opens_15 (fun q5 => ?_)
    exact RX.loc (w_X11_opens_18 C x1 q5.2) [0, 1] rfl
  · exact RX.loc (w_X11_opens_18 C x1 σ) [0, 1] rfl
theorem m_X11_opens (l : Launch) {α : Nat → Nat} {D : va_G} {cA : Nat → ClassId} (hin : inj shM.length α) (x1 : Int32) (σ : St) : CT shM l yX11_opens cX11_opens 2 none 2 47 emV α D cA [.ref (α 0), .int x1] σ (f_X11_opens x1 σ) := ct_of rfl (Nat.le_of_ble_eq_true rfl) hin (fun z _ C => w_X11_opens_e C x1 σ)
set_option maxRecDepth 100000 in
set_option maxHeartbeats 4000000 in
theorem w_X11_isTest_15 {α : Nat → Nat} {D : va_G} {cA : Nat → ClassId} {z : Cz} (C : CX shM α D cA z RX11 cX11_isTest 1 (some .boolean) 0 0) (s0 : Int32) (σ : St) : RX emI shM α D cA z 1 σ 15 [] [.int s0] (f_X11_isTest_15 s0 σ) := by
  unfold f_X11_isTest_15
  exact rx_zret C dX11_isTest_15
set_option maxRecDepth 100000 in
set_option maxHeartbeats 4000000 in
theorem w_X11_isTest_10 {α : Nat → Nat} {D : va_G} {cA : Nat → ClassId} {z : Cz} (C : CX shM α D cA z RX11 cX11_isTest 1 (some .boolean) 0 0) (σ : St) : RX emI shM α D cA z 1 σ 10 [] [] (f_X11_isTest_10 σ) := by
  unfold f_X11_isTest_10
  refine rx_iconst C dX11_isTest_10 ic_1 ?_
  refine rx_goto C (tgt := 15) dX11_isTest_11 (by decide) ?_
  exact RX.loc (w_X11_isTest_15 C (1 : Int32) σ) [] rfl
set_option maxRecDepth 100000 in
set_option maxHeartbeats 4000000 in
theorem w_X11_isTest_e {α : Nat → Nat} {D : va_G} {cA : Nat → ClassId} {z : Cz} (C : CX shM α D cA z RX11 cX11_isTest 1 (some .boolean) 0 0) (x0 : Int32) (σ : St) : RX emI shM α D cA z 1 σ 0 [(0, .int x0)] [] (f_X11_isTest x0 σ) := by
  unfold f_X11_isTest
  refine rx_iload_n C 0 dX11_isTest_0 rfl rfl ?_
  refine rx_iconst C dX11_isTest_1 ic_1 ?_
  refine rx_icmp_eq C (tgt := 10) dX11_isTest_2 (by decide) (fun _ => ?_) (fun _ => ?_)
  · exact RX.loc (w_X11_isTest_10 C σ) [] rfl
  · refine rx_iload_n C 0 dX11_isTest_5 rfl rfl ?_
    refine rx_iconst C dX11_isTest_6 ic_5 ?_
    refine rx_icmp_ne C (tgt := 14) dX11_isTest_7 (by decide) (fun _ => ?_) (fun _ => ?_)
    · exact RX.loc (w_X11_isTest_10 C σ) [] rfl
    · refine rx_iconst C dX11_isTest_14 ic_0 ?_
      exact RX.loc (w_X11_isTest_15 C (0 : Int32) σ) [] rfl
theorem m_X11_isTest (l : Launch) {α : Nat → Nat} {D : va_G} {cA : Nat → ClassId} (hin : inj shM.length α) (x0 : Int32) (σ : St) : CT shM l yX11_isTest cX11_isTest 1 (some .boolean) 0 0 emI α D cA [.int x0] σ (f_X11_isTest x0 σ) := ct_of rfl (Nat.le_of_ble_eq_true rfl) hin (fun z _ C => w_X11_isTest_e C x0 σ)
set_option maxRecDepth 100000 in
set_option maxHeartbeats 4000000 in
theorem w_X11_operand_321 {α : Nat → Nat} {D : va_G} {cA : Nat → ClassId} {z : Cz} (C : CX shM α D cA z RX11 cX11_operand 4 (some .boolean) 3 68) (x3 : Int32) (σ : St) : RX emI shM α D cA z 4 σ 321 [(0, .ref (α 0)), (3, .int x3)] [] (f_X11_operand_321 x3 σ) := by
  unfold f_X11_operand_321
  refine rx_aload_n C 0 dX11_operand_321 rfl rfl ?_
  refine rx_getI C (k := 8) sm_0 fc_X11 (by decide) rfl lk_X11_36 dX11_operand_322 ?_
  refine rx_if_le C (tgt := 330) dX11_operand_325 (by decide) (fun _ => ?_) (fun _ => ?_)
  · refine rx_aload_n C 0 dX11_operand_330 rfl rfl ?_
    refine rx_iload_n C 1 dX11_operand_331 rfl rfl ?_
    refine rx_aload_n C 0 dX11_operand_332 rfl rfl ?_
    refine rx_getI C (k := 6) sm_0 fc_X11 (by decide) rfl lk_X11_29 dX11_operand_333 ?_
    refine rx_callVv C [.int x3, .int (gI σ 0 6)] [] (m_X11_add z.l C.inj x3 (gI σ 0 6) σ) mv_X11_add lk_X11_316 sm_0 rfl rfl rfl (Nat.le_of_ble_eq_true rfl) ⟨Nat.le_of_ble_eq_true rfl, Nat.le_of_ble_eq_true rfl⟩ dX11_operand_336 (fun q38 => ?_)
    refine rx_aload_n C 0 dX11_operand_339 rfl rfl ?_
    refine rx_callVv C [] [] (m_X11_ahead z.l C.inj q38.2) mv_X11_ahead lk_X11_256 sm_0 rfl rfl rfl (Nat.le_of_ble_eq_true rfl) ⟨Nat.le_of_ble_eq_true rfl, Nat.le_of_ble_eq_true rfl⟩ dX11_operand_340 (fun q39 => ?_)
    refine rx_iconst C dX11_operand_343 ic_1 ?_
    exact rx_zretC C dX11_operand_344 rfl
  · refine rx_iconst C dX11_operand_328 ic_1 ?_
    exact rx_zretC C dX11_operand_329 rfl
set_option maxRecDepth 100000 in
set_option maxHeartbeats 4000000 in
theorem w_X11_operand_306 {α : Nat → Nat} {D : va_G} {cA : Nat → ClassId} {z : Cz} (C : CX shM α D cA z RX11 cX11_operand 4 (some .boolean) 3 68) (s0 : Int32) (σ : St) : RX emI shM α D cA z 4 σ 306 [(0, .ref (α 0))] [.int s0] (f_X11_operand_306 s0 σ) := by
  unfold f_X11_operand_306
  refine rx_istore_n C [(3, .int s0), (0, .ref (α 0))] dX11_operand_306 rfl (by decide) rfl ?_
  refine rx_iload_n C 0 dX11_operand_307 rfl rfl ?_
  refine rx_iconst C dX11_operand_308 ic_m1 ?_
  refine rx_icmp_ne C (tgt := 321) dX11_operand_309 (by decide) (fun _ => ?_) (fun _ => ?_)
  · refine rx_aload_n C 1 dX11_operand_312 rfl rfl ?_
    refine rx_iconst C dX11_operand_313 ic_1 ?_
    refine rx_aload_n C 1 dX11_operand_314 rfl rfl ?_
    refine rx_getI C (k := 4) sm_0 fc_X11 (by decide) rfl lk_X11_23 dX11_operand_315 ?_
    refine rx_callVv C [.int (1 : Int32), .int (gI σ 0 4)] [] (m_X11_blame z.l C.inj (1 : Int32) (gI σ 0 4) σ) mv_X11_blame lk_X11_249 sm_0 rfl rfl rfl (Nat.le_of_ble_eq_true rfl) ⟨Nat.le_of_ble_eq_true rfl, Nat.le_of_ble_eq_true rfl⟩ dX11_operand_318 (fun q37 => ?_)
    exact RX.loc (w_X11_operand_321 C s0 q37.2) [1, 0] rfl
  · exact RX.loc (w_X11_operand_321 C s0 σ) [1, 0] rfl
set_option maxRecDepth 100000 in
set_option maxHeartbeats 4000000 in
theorem w_X11_operand_221 {α : Nat → Nat} {D : va_G} {cA : Nat → ClassId} {z : Cz} (C : CX shM α D cA z RX11 cX11_operand 4 (some .boolean) 3 68) (σ : St) : RX emI shM α D cA z 4 σ 221 [] [] (f_X11_operand_221 σ) := by
  unfold f_X11_operand_221
  refine rx_iconst C dX11_operand_221 ic_0 ?_
  exact rx_zretC C dX11_operand_222 rfl
set_option maxRecDepth 100000 in
set_option maxHeartbeats 4000000 in
theorem w_X11_operand_197 {α : Nat → Nat} {D : va_G} {cA : Nat → ClassId} {z : Cz} (C : CX shM α D cA z RX11 cX11_operand 4 (some .boolean) 3 68) (x3 : Int32) (σ : St) : RX emI shM α D cA z 4 σ 197 [(0, .ref (α 0)), (3, .int x3)] [] (f_X11_operand_197 x3 σ) := by
  unfold f_X11_operand_197
  refine rx_aload_n C 0 dX11_operand_197 rfl rfl ?_
  refine rx_iconst C dX11_operand_198 ic_3 ?_
  refine rx_callVv C [.int (3 : Int32)] [] (m_X11_opens z.l C.inj (3 : Int32) σ) mv_X11_opens lk_X11_332 sm_0 rfl rfl rfl (Nat.le_of_ble_eq_true rfl) ⟨Nat.le_of_ble_eq_true rfl, Nat.le_of_ble_eq_true rfl⟩ dX11_operand_199 (fun q49 => ?_)
  refine rx_aload_n C 0 dX11_operand_202 rfl rfl ?_
  refine rx_getI C (k := 8) sm_0 fc_X11 (by decide) rfl lk_X11_36 dX11_operand_203 ?_
  refine rx_if_ne C (tgt := 221) dX11_operand_206 (by decide) (fun _ => ?_) (fun _ => ?_)
  · refine rx_aload_n C 0 dX11_operand_209 rfl rfl ?_
    refine rx_getC C (k := 42) sm_0 fc_X11 (by decide) 29 rfl lk_X11_140 dX11_operand_210 ?_
    refine rx_aload_n C 0 dX11_operand_213 rfl rfl ?_
    refine rx_getI C (k := 44) sm_0 fc_X11 (by decide) rfl lk_X11_146 dX11_operand_214 ?_
    refine rx_iconst C dX11_operand_217 ic_1 ?_
    refine rx_isub C dX11_operand_218 ?_
    refine rx_iload_n C 1 dX11_operand_219 rfl rfl ?_
    refine rx_iast C (n := 20) sm_29 dX11_operand_220 (fun _ => ?_)
    refine rx_lts (fun σ50 => ?_)
    exact RX.loc (w_X11_operand_221 C σ50) [] rfl
  · exact RX.loc (w_X11_operand_221 C q49.2) [] rfl
set_option maxRecDepth 100000 in
set_option maxHeartbeats 4000000 in
theorem w_X11_operand_174 {α : Nat → Nat} {D : va_G} {cA : Nat → ClassId} {z : Cz} (C : CX shM α D cA z RX11 cX11_operand 4 (some .boolean) 3 68) (s0 : Int32) (σ : St) : RX emI shM α D cA z 4 σ 174 [(0, .ref (α 0))] [.int s0] (f_X11_operand_174 s0 σ) := by
  unfold f_X11_operand_174
  refine rx_istore_n C [(3, .int s0), (0, .ref (α 0))] dX11_operand_174 rfl (by decide) rfl ?_
  refine rx_aload_n C 1 dX11_operand_175 rfl rfl ?_
  refine rx_callVv C [] [] (m_X11_ahead z.l C.inj σ) mv_X11_ahead lk_X11_256 sm_0 rfl rfl rfl (Nat.le_of_ble_eq_true rfl) ⟨Nat.le_of_ble_eq_true rfl, Nat.le_of_ble_eq_true rfl⟩ dX11_operand_176 (fun q46 => ?_)
  refine rx_aload_n C 1 dX11_operand_179 rfl rfl ?_
  refine rx_bipush C dX11_operand_180 bp_40 ?_
  refine rx_callVi C [.int (40 : Int32)] [] (m_X11_isSign z.l C.inj (40 : Int32) q46.2) mv_X11_isSign lk_X11_253 sm_0 rfl rfl rfl (Nat.le_of_ble_eq_true rfl) ⟨Nat.le_of_ble_eq_true rfl, Nat.le_of_ble_eq_true rfl⟩ dX11_operand_182 (fun q47 => ?_)
  refine rx_if_ne C (tgt := 197) dX11_operand_185 (by decide) (fun _ => ?_) (fun _ => ?_)
  · refine rx_aload_n C 1 dX11_operand_188 rfl rfl ?_
    refine rx_iconst C dX11_operand_189 ic_1 ?_
    refine rx_aload_n C 1 dX11_operand_190 rfl rfl ?_
    refine rx_getI C (k := 4) sm_0 fc_X11 (by decide) rfl lk_X11_23 dX11_operand_191 ?_
    refine rx_callVv C [.int (1 : Int32), .int (gI q47.2 0 4)] [] (m_X11_blame z.l C.inj (1 : Int32) (gI q47.2 0 4) q47.2) mv_X11_blame lk_X11_249 sm_0 rfl rfl rfl (Nat.le_of_ble_eq_true rfl) ⟨Nat.le_of_ble_eq_true rfl, Nat.le_of_ble_eq_true rfl⟩ dX11_operand_194 (fun q48 => ?_)
    exact RX.loc (w_X11_operand_197 C s0 q48.2) [1, 0] rfl
  · exact RX.loc (w_X11_operand_197 C s0 q47.2) [1, 0] rfl
set_option maxRecDepth 100000 in
set_option maxHeartbeats 4000000 in
theorem w_X11_operand_157 {α : Nat → Nat} {D : va_G} {cA : Nat → ClassId} {z : Cz} (C : CX shM α D cA z RX11 cX11_operand 4 (some .boolean) 3 68) (σ : St) : RX emI shM α D cA z 4 σ 157 [(0, .ref (α 0))] [] (f_X11_operand_157 σ) := by
  unfold f_X11_operand_157
  refine rx_aload_n C 0 dX11_operand_157 rfl rfl ?_
  refine rx_ldc2_w C lk_X11_301 dX11_operand_158 ?_
  refine rx_callVi C [.long (7170414 : Int64)] [] (m_X11_isWord z.l C.inj (7170414 : Int64) σ) mv_X11_isWord lk_X11_325 sm_0 rfl rfl rfl (Nat.le_of_ble_eq_true rfl) ⟨Nat.le_of_ble_eq_true rfl, Nat.le_of_ble_eq_true rfl⟩ dX11_operand_161 (fun q45 => ?_)
  refine rx_if_eq C (tgt := 172) dX11_operand_164 (by decide) (fun _ => ?_) (fun _ => ?_)
  · refine rx_bipush C dX11_operand_172 bp_16 ?_
    exact RX.loc (w_X11_operand_174 C (16 : Int32) q45.2) [0] rfl
  · refine rx_bipush C dX11_operand_167 bp_15 ?_
    refine rx_goto C (tgt := 174) dX11_operand_169 (by decide) ?_
    exact RX.loc (w_X11_operand_174 C (15 : Int32) q45.2) [0] rfl
set_option maxRecDepth 100000 in
set_option maxHeartbeats 4000000 in
theorem w_X11_operand_121 {α : Nat → Nat} {D : va_G} {cA : Nat → ClassId} {z : Cz} (C : CX shM α D cA z RX11 cX11_operand 4 (some .boolean) 3 68) (σ : St) : RX emI shM α D cA z 4 σ 121 [(0, .ref (α 0))] [] (f_X11_operand_121 σ) := by
  unfold f_X11_operand_121
  refine rx_aload_n C 0 dX11_operand_121 rfl rfl ?_
  refine rx_bipush C dX11_operand_122 bp_40 ?_
  refine rx_callVi C [.int (40 : Int32)] [] (m_X11_isSign z.l C.inj (40 : Int32) σ) mv_X11_isSign lk_X11_253 sm_0 rfl rfl rfl (Nat.le_of_ble_eq_true rfl) ⟨Nat.le_of_ble_eq_true rfl, Nat.le_of_ble_eq_true rfl⟩ dX11_operand_124 (fun q34 => ?_)
  refine rx_if_eq C (tgt := 137) dX11_operand_127 (by decide) (fun _ => ?_) (fun _ => ?_)
  · refine rx_aload_n C 0 dX11_operand_137 rfl rfl ?_
    refine rx_ldc2_w C lk_X11_301 dX11_operand_138 ?_
    refine rx_callVi C [.long (7170414 : Int64)] [] (m_X11_isWord z.l C.inj (7170414 : Int64) q34.2) mv_X11_isWord lk_X11_325 sm_0 rfl rfl rfl (Nat.le_of_ble_eq_true rfl) ⟨Nat.le_of_ble_eq_true rfl, Nat.le_of_ble_eq_true rfl⟩ dX11_operand_141 (fun q35 => ?_)
    refine rx_if_ne C (tgt := 157) dX11_operand_144 (by decide) (fun _ => ?_) (fun _ => ?_)
    · refine rx_aload_n C 0 dX11_operand_147 rfl rfl ?_
      refine rx_ldc2_w C lk_X11_303 dX11_operand_148 ?_
      refine rx_callVi C [.long (7168376 : Int64)] [] (m_X11_isWord z.l C.inj (7168376 : Int64) q35.2) mv_X11_isWord lk_X11_325 sm_0 rfl rfl rfl (Nat.le_of_ble_eq_true rfl) ⟨Nat.le_of_ble_eq_true rfl, Nat.le_of_ble_eq_true rfl⟩ dX11_operand_151 (fun q36 => ?_)
      refine rx_if_eq C (tgt := 223) dX11_operand_154 (by decide) (fun _ => ?_) (fun _ => ?_)
      · refine rx_aload_n C 0 dX11_operand_223 rfl rfl ?_
        refine rx_getI C (k := 3) sm_0 fc_X11 (by decide) rfl lk_X11_20 dX11_operand_224 ?_
        refine rx_iconst C dX11_operand_227 ic_2 ?_
        refine rx_icmp_ne C (tgt := 235) dX11_operand_228 (by decide) (fun _ => ?_) (fun _ => ?_)
        · refine rx_iconst C dX11_operand_231 ic_0 ?_
          refine rx_goto C (tgt := 306) dX11_operand_232 (by decide) ?_
          exact RX.loc (w_X11_operand_306 C (0 : Int32) q36.2) [0] rfl
        · refine rx_aload_n C 0 dX11_operand_235 rfl rfl ?_
          refine rx_ldc2_w C lk_X11_261 dX11_operand_236 ?_
          refine rx_callVi C [.long (123581014175598 : Int64)] [] (m_X11_isWord z.l C.inj (123581014175598 : Int64) q36.2) mv_X11_isWord lk_X11_325 sm_0 rfl rfl rfl (Nat.le_of_ble_eq_true rfl) ⟨Nat.le_of_ble_eq_true rfl, Nat.le_of_ble_eq_true rfl⟩ dX11_operand_239 (fun q40 => ?_)
          refine rx_if_eq C (tgt := 249) dX11_operand_242 (by decide) (fun _ => ?_) (fun _ => ?_)
          · refine rx_aload_n C 0 dX11_operand_249 rfl rfl ?_
            refine rx_ldc2_w C lk_X11_295 dX11_operand_250 ?_
            refine rx_callVi C [.long (7302244 : Int64)] [] (m_X11_isWord z.l C.inj (7302244 : Int64) q40.2) mv_X11_isWord lk_X11_325 sm_0 rfl rfl rfl (Nat.le_of_ble_eq_true rfl) ⟨Nat.le_of_ble_eq_true rfl, Nat.le_of_ble_eq_true rfl⟩ dX11_operand_253 (fun q41 => ?_)
            refine rx_if_eq C (tgt := 263) dX11_operand_256 (by decide) (fun _ => ?_) (fun _ => ?_)
            · refine rx_aload_n C 0 dX11_operand_263 rfl rfl ?_
              refine rx_ldc2_w C lk_X11_297 dX11_operand_264 ?_
              refine rx_callVi C [.long (439956431717 : Int64)] [] (m_X11_isWord z.l C.inj (439956431717 : Int64) q41.2) mv_X11_isWord lk_X11_325 sm_0 rfl rfl rfl (Nat.le_of_ble_eq_true rfl) ⟨Nat.le_of_ble_eq_true rfl, Nat.le_of_ble_eq_true rfl⟩ dX11_operand_267 (fun q42 => ?_)
              refine rx_if_eq C (tgt := 277) dX11_operand_270 (by decide) (fun _ => ?_) (fun _ => ?_)
              · refine rx_aload_n C 0 dX11_operand_277 rfl rfl ?_
                refine rx_ldc2_w C lk_X11_271 dX11_operand_278 ?_
                refine rx_callVi C [.long (114827803456882 : Int64)] [] (m_X11_isWord z.l C.inj (114827803456882 : Int64) q42.2) mv_X11_isWord lk_X11_325 sm_0 rfl rfl rfl (Nat.le_of_ble_eq_true rfl) ⟨Nat.le_of_ble_eq_true rfl, Nat.le_of_ble_eq_true rfl⟩ dX11_operand_281 (fun q43 => ?_)
                refine rx_if_eq C (tgt := 291) dX11_operand_284 (by decide) (fun _ => ?_) (fun _ => ?_)
                · refine rx_aload_n C 0 dX11_operand_291 rfl rfl ?_
                  refine rx_ldc2_w C lk_X11_299 dX11_operand_292 ?_
                  refine rx_callVi C [.long (474080961907 : Int64)] [] (m_X11_isWord z.l C.inj (474080961907 : Int64) q43.2) mv_X11_isWord lk_X11_325 sm_0 rfl rfl rfl (Nat.le_of_ble_eq_true rfl) ⟨Nat.le_of_ble_eq_true rfl, Nat.le_of_ble_eq_true rfl⟩ dX11_operand_295 (fun q44 => ?_)
                  refine rx_if_eq C (tgt := 305) dX11_operand_298 (by decide) (fun _ => ?_) (fun _ => ?_)
                  · refine rx_iconst C dX11_operand_305 ic_m1 ?_
                    exact RX.loc (w_X11_operand_306 C (-1 : Int32) q44.2) [0] rfl
                  · refine rx_iconst C dX11_operand_301 ic_5 ?_
                    refine rx_goto C (tgt := 306) dX11_operand_302 (by decide) ?_
                    exact RX.loc (w_X11_operand_306 C (5 : Int32) q44.2) [0] rfl
                · refine rx_iconst C dX11_operand_287 ic_4 ?_
                  refine rx_goto C (tgt := 306) dX11_operand_288 (by decide) ?_
                  exact RX.loc (w_X11_operand_306 C (4 : Int32) q43.2) [0] rfl
              · refine rx_iconst C dX11_operand_273 ic_3 ?_
                refine rx_goto C (tgt := 306) dX11_operand_274 (by decide) ?_
                exact RX.loc (w_X11_operand_306 C (3 : Int32) q42.2) [0] rfl
            · refine rx_iconst C dX11_operand_259 ic_2 ?_
              refine rx_goto C (tgt := 306) dX11_operand_260 (by decide) ?_
              exact RX.loc (w_X11_operand_306 C (2 : Int32) q41.2) [0] rfl
          · refine rx_iconst C dX11_operand_245 ic_1 ?_
            refine rx_goto C (tgt := 306) dX11_operand_246 (by decide) ?_
            exact RX.loc (w_X11_operand_306 C (1 : Int32) q40.2) [0] rfl
      · exact RX.loc (w_X11_operand_157 C q36.2) [0] rfl
    · exact RX.loc (w_X11_operand_157 C q35.2) [0] rfl
  · refine rx_aload_n C 0 dX11_operand_130 rfl rfl ?_
    refine rx_iconst C dX11_operand_131 ic_2 ?_
    refine rx_callVv C [.int (2 : Int32)] [] (m_X11_opens z.l C.inj (2 : Int32) q34.2) mv_X11_opens lk_X11_332 sm_0 rfl rfl rfl (Nat.le_of_ble_eq_true rfl) ⟨Nat.le_of_ble_eq_true rfl, Nat.le_of_ble_eq_true rfl⟩ dX11_operand_132 (fun q51 => ?_)
    refine rx_iconst C dX11_operand_135 ic_0 ?_
    exact rx_zretC C dX11_operand_136 rfl
set_option maxRecDepth 100000 in
set_option maxHeartbeats 4000000 in
theorem w_X11_operand_87 {α : Nat → Nat} {D : va_G} {cA : Nat → ClassId} {z : Cz} (C : CX shM α D cA z RX11 cX11_operand 4 (some .boolean) 3 68) (x1 : Int32) (x2 : Int32) (σ : St) : RX emI shM α D cA z 4 σ 87 [(0, .ref (α 0)), (1, .int x1), (2, .int x2)] [] (f_X11_operand_87 x1 x2 σ) := by
  unfold f_X11_operand_87
  refine rx_iload_n C 2 dX11_operand_87 rfl rfl ?_
  refine rx_if_eq C (tgt := 121) dX11_operand_88 (by decide) (fun _ => ?_) (fun _ => ?_)
  · exact RX.loc (w_X11_operand_121 C σ) [0] rfl
  · refine rx_aload_n C 0 dX11_operand_91 rfl rfl ?_
    refine rx_ldc2_w C lk_X11_293 dX11_operand_92 ?_
    refine rx_callVi C [.long (6384748 : Int64)] [] (m_X11_isWord z.l C.inj (6384748 : Int64) σ) mv_X11_isWord lk_X11_325 sm_0 rfl rfl rfl (Nat.le_of_ble_eq_true rfl) ⟨Nat.le_of_ble_eq_true rfl, Nat.le_of_ble_eq_true rfl⟩ dX11_operand_95 (fun q52 => ?_)
    refine rx_if_eq C (tgt := 121) dX11_operand_98 (by decide) (fun _ => ?_) (fun _ => ?_)
    · exact RX.loc (w_X11_operand_121 C q52.2) [0] rfl
    · refine rx_aload_n C 0 dX11_operand_101 rfl rfl ?_
      refine rx_bipush C dX11_operand_102 bp_9 ?_
      refine rx_iconst C dX11_operand_104 ic_0 ?_
      refine rx_callVv C [.int (9 : Int32), .int (0 : Int32)] [] (m_X11_add z.l C.inj (9 : Int32) (0 : Int32) q52.2) mv_X11_add lk_X11_316 sm_0 rfl rfl rfl (Nat.le_of_ble_eq_true rfl) ⟨Nat.le_of_ble_eq_true rfl, Nat.le_of_ble_eq_true rfl⟩ dX11_operand_105 (fun q53 => ?_)
      refine rx_aload_n C 0 dX11_operand_108 rfl rfl ?_
      refine rx_getC C (k := 40) sm_0 fc_X11 (by decide) 27 rfl lk_X11_133 dX11_operand_109 ?_
      refine rx_iload_n C 1 dX11_operand_112 rfl rfl ?_
      refine rx_iconst C dX11_operand_113 ic_2 ?_
      refine rx_iast C (n := 20) sm_27 dX11_operand_114 (fun _ => ?_)
      refine rx_lts (fun σ54 => ?_)
      refine rx_aload_n C 0 dX11_operand_115 rfl rfl ?_
      refine rx_callVv C [] [] (m_X11_ahead z.l C.inj σ54) mv_X11_ahead lk_X11_256 sm_0 rfl rfl rfl (Nat.le_of_ble_eq_true rfl) ⟨Nat.le_of_ble_eq_true rfl, Nat.le_of_ble_eq_true rfl⟩ dX11_operand_116 (fun q55 => ?_)
      refine rx_iconst C dX11_operand_119 ic_1 ?_
      exact rx_zretC C dX11_operand_120 rfl
set_option maxRecDepth 100000 in
set_option maxHeartbeats 4000000 in
theorem w_X11_operand_60 {α : Nat → Nat} {D : va_G} {cA : Nat → ClassId} {z : Cz} (C : CX shM α D cA z RX11 cX11_operand 4 (some .boolean) 3 68) (x1 : Int32) (x2 : Int32) (σ : St) : RX emI shM α D cA z 4 σ 60 [(0, .ref (α 0)), (1, .int x1), (2, .int x2)] [] (f_X11_operand_60 x1 x2 σ) := by
  unfold f_X11_operand_60
  refine rx_aload_n C 0 dX11_operand_60 rfl rfl ?_
  refine rx_getC C (k := 41) sm_0 fc_X11 (by decide) 28 rfl lk_X11_136 dX11_operand_61 ?_
  refine rx_iload_n C 1 dX11_operand_64 rfl rfl ?_
  refine rx_iconst C dX11_operand_65 ic_0 ?_
  refine rx_zast C (n := 20) sm_28 dX11_operand_66 (fun _ => ?_)
  refine rx_lts (fun σ33 => ?_)
  refine rx_iload_n C 2 dX11_operand_67 rfl rfl ?_
  refine rx_if_eq C (tgt := 87) dX11_operand_68 (by decide) (fun _ => ?_) (fun _ => ?_)
  · exact RX.loc (w_X11_operand_87 C x1 x2 σ33) [0, 1, 2] rfl
  · refine rx_aload_n C 0 dX11_operand_71 rfl rfl ?_
    refine rx_bipush C dX11_operand_72 bp_91 ?_
    refine rx_callVi C [.int (91 : Int32)] [] (m_X11_isSign z.l C.inj (91 : Int32) σ33) mv_X11_isSign lk_X11_253 sm_0 rfl rfl rfl (Nat.le_of_ble_eq_true rfl) ⟨Nat.le_of_ble_eq_true rfl, Nat.le_of_ble_eq_true rfl⟩ dX11_operand_74 (fun q56 => ?_)
    refine rx_if_eq C (tgt := 87) dX11_operand_77 (by decide) (fun _ => ?_) (fun _ => ?_)
    · exact RX.loc (w_X11_operand_87 C x1 x2 q56.2) [0, 1, 2] rfl
    · refine rx_aload_n C 0 dX11_operand_80 rfl rfl ?_
      refine rx_iconst C dX11_operand_81 ic_5 ?_
      refine rx_callVv C [.int (5 : Int32)] [] (m_X11_opens z.l C.inj (5 : Int32) q56.2) mv_X11_opens lk_X11_332 sm_0 rfl rfl rfl (Nat.le_of_ble_eq_true rfl) ⟨Nat.le_of_ble_eq_true rfl, Nat.le_of_ble_eq_true rfl⟩ dX11_operand_82 (fun q57 => ?_)
      refine rx_iconst C dX11_operand_85 ic_0 ?_
      exact rx_zretC C dX11_operand_86 rfl
set_option maxRecDepth 100000 in
set_option maxHeartbeats 4000000 in
theorem w_X11_operand_33 {α : Nat → Nat} {D : va_G} {cA : Nat → ClassId} {z : Cz} (C : CX shM α D cA z RX11 cX11_operand 4 (some .boolean) 3 68) (x1 : Int32) (s0 : Int32) (σ : St) : RX emI shM α D cA z 4 σ 33 [(0, .ref (α 0)), (1, .int x1)] [.int s0] (f_X11_operand_33 x1 s0 σ) := by
  unfold f_X11_operand_33
  refine rx_istore_n C [(2, .int s0), (0, .ref (α 0)), (1, .int x1)] dX11_operand_33 rfl (by decide) rfl ?_
  refine rx_iload_n C 0 dX11_operand_34 rfl rfl ?_
  refine rx_if_eq C (tgt := 60) dX11_operand_35 (by decide) (fun _ => ?_) (fun _ => ?_)
  · exact RX.loc (w_X11_operand_60 C x1 s0 σ) [1, 2, 0] rfl
  · refine rx_aload_n C 1 dX11_operand_38 rfl rfl ?_
    refine rx_ldc2_w C lk_X11_291 dX11_operand_39 ?_
    refine rx_callVi C [.long (7237492 : Int64)] [] (m_X11_isWord z.l C.inj (7237492 : Int64) σ) mv_X11_isWord lk_X11_325 sm_0 rfl rfl rfl (Nat.le_of_ble_eq_true rfl) ⟨Nat.le_of_ble_eq_true rfl, Nat.le_of_ble_eq_true rfl⟩ dX11_operand_42 (fun q58 => ?_)
    refine rx_if_eq C (tgt := 60) dX11_operand_45 (by decide) (fun _ => ?_) (fun _ => ?_)
    · exact RX.loc (w_X11_operand_60 C x1 s0 q58.2) [1, 2, 0] rfl
    · refine rx_aload_n C 1 dX11_operand_48 rfl rfl ?_
      refine rx_bipush C dX11_operand_49 bp_22 ?_
      refine rx_callVv C [.int (22 : Int32)] [] (m_X11_holdsBack z.l C.inj (22 : Int32) q58.2) mv_X11_holdsBack lk_X11_329 sm_0 rfl rfl rfl (Nat.le_of_ble_eq_true rfl) ⟨Nat.le_of_ble_eq_true rfl, Nat.le_of_ble_eq_true rfl⟩ dX11_operand_51 (fun q59 => ?_)
      refine rx_aload_n C 1 dX11_operand_54 rfl rfl ?_
      refine rx_callVv C [] [] (m_X11_ahead z.l C.inj q59.2) mv_X11_ahead lk_X11_256 sm_0 rfl rfl rfl (Nat.le_of_ble_eq_true rfl) ⟨Nat.le_of_ble_eq_true rfl, Nat.le_of_ble_eq_true rfl⟩ dX11_operand_55 (fun q60 => ?_)
      refine rx_iconst C dX11_operand_58 ic_0 ?_
      exact rx_zretC C dX11_operand_59 rfl
set_option maxRecDepth 100000 in
set_option maxHeartbeats 4000000 in
theorem w_X11_operand_32 {α : Nat → Nat} {D : va_G} {cA : Nat → ClassId} {z : Cz} (C : CX shM α D cA z RX11 cX11_operand 4 (some .boolean) 3 68) (x1 : Int32) (σ : St) : RX emI shM α D cA z 4 σ 32 [(0, .ref (α 0)), (1, .int x1)] [] (f_X11_operand_32 x1 σ) := by
  unfold f_X11_operand_32
  refine rx_iconst C dX11_operand_32 ic_0 ?_
  exact RX.loc (w_X11_operand_33 C x1 (0 : Int32) σ) [0, 1] rfl
set_option maxRecDepth 100000 in
set_option maxHeartbeats 4000000 in
theorem w_X11_operand_e {α : Nat → Nat} {D : va_G} {cA : Nat → ClassId} {z : Cz} (C : CX shM α D cA z RX11 cX11_operand 4 (some .boolean) 3 68) (σ : St) : RX emI shM α D cA z 4 σ 0 [(0, .ref (α 0))] [] (f_X11_operand σ) := by
  unfold f_X11_operand
  refine rx_aload_n C 0 dX11_operand_0 rfl rfl ?_
  refine rx_getI C (k := 44) sm_0 fc_X11 (by decide) rfl lk_X11_146 dX11_operand_1 ?_
  refine rx_iconst C dX11_operand_4 ic_1 ?_
  refine rx_isub C dX11_operand_5 ?_
  refine rx_lti (fun w31 => ?_)
  refine rx_istore_n C [(1, .int w31), (0, .ref (α 0))] dX11_operand_6 rfl (by decide) rfl ?_
  refine rx_aload_n C 1 dX11_operand_7 rfl rfl ?_
  refine rx_getC C (k := 39) sm_0 fc_X11 (by decide) 26 rfl lk_X11_130 dX11_operand_8 ?_
  refine rx_iload_n C 0 dX11_operand_11 rfl rfl ?_
  refine rx_iald C (n := 20) sm_26 dX11_operand_12 (fun _ => ?_)
  refine rx_callSi C [.int (gI σ 26 (ix w31))] [] (m_X11_isTest z.l C.inj (gI σ 26 (ix w31)) σ) ms_X11_isTest lk_X11_322 rfl rfl (Nat.le_of_ble_eq_true rfl) ⟨Nat.le_of_ble_eq_true rfl, Nat.le_of_ble_eq_true rfl⟩ dX11_operand_13 (fun q32 => ?_)
  refine rx_if_eq C (tgt := 32) dX11_operand_16 (by decide) (fun _ => ?_) (fun _ => ?_)
  · exact RX.loc (w_X11_operand_32 C w31 q32.2) [1, 0] rfl
  · refine rx_aload_n C 1 dX11_operand_19 rfl rfl ?_
    refine rx_getC C (k := 41) sm_0 fc_X11 (by decide) 28 rfl lk_X11_136 dX11_operand_20 ?_
    refine rx_iload_n C 0 dX11_operand_23 rfl rfl ?_
    refine rx_zald C (n := 20) sm_28 dX11_operand_24 (fun _ => ?_)
    refine rx_if_eq C (tgt := 32) dX11_operand_25 (by decide) (fun _ => ?_) (fun _ => ?_)
    · exact RX.loc (w_X11_operand_32 C w31 q32.2) [1, 0] rfl
    · refine rx_iconst C dX11_operand_28 ic_1 ?_
      refine rx_goto C (tgt := 33) dX11_operand_29 (by decide) ?_
      exact RX.loc (w_X11_operand_33 C w31 (1 : Int32) q32.2) [1, 0] rfl
theorem m_X11_operand (l : Launch) {α : Nat → Nat} {D : va_G} {cA : Nat → ClassId} (hin : inj shM.length α) (σ : St) : CT shM l yX11_operand cX11_operand 4 (some .boolean) 3 68 emI α D cA [.ref (α 0)] σ (f_X11_operand σ) := ct_of rfl (Nat.le_of_ble_eq_true rfl) hin (fun z _ C => w_X11_operand_e C σ)
set_option maxRecDepth 100000 in
set_option maxHeartbeats 4000000 in
theorem w_X11_goesOn_451 {α : Nat → Nat} {D : va_G} {cA : Nat → ClassId} {z : Cz} (C : CX shM α D cA z RX11 cX11_goesOn 5 (some .boolean) 2 47) (x1 : Int32) (σ : St) : RX emI shM α D cA z 5 σ 451 [(0, .ref (α 0)), (1, .int x1)] [] (f_X11_goesOn_451 x1 σ) := by
  unfold f_X11_goesOn_451
  refine rx_aload_n C 0 dX11_goesOn_451 rfl rfl ?_
  refine rx_getI C (k := 8) sm_0 fc_X11 (by decide) rfl lk_X11_36 dX11_goesOn_452 ?_
  refine rx_if_le C (tgt := 460) dX11_goesOn_455 (by decide) (fun _ => ?_) (fun _ => ?_)
  · refine rx_aload_n C 0 dX11_goesOn_460 rfl rfl ?_
    refine rx_iconst C dX11_goesOn_461 ic_1 ?_
    refine rx_callVv C [.int (1 : Int32)] [] (m_X11_joins z.l C.inj (1 : Int32) σ) mv_X11_joins lk_X11_335 sm_0 rfl rfl rfl (Nat.le_of_ble_eq_true rfl) ⟨Nat.le_of_ble_eq_true rfl, Nat.le_of_ble_eq_true rfl⟩ dX11_goesOn_462 (fun q60 => ?_)
    refine rx_aload_n C 0 dX11_goesOn_465 rfl rfl ?_
    refine rx_getC C (k := 39) sm_0 fc_X11 (by decide) 26 rfl lk_X11_130 dX11_goesOn_466 ?_
    refine rx_iload_n C 1 dX11_goesOn_469 rfl rfl ?_
    refine rx_iconst C dX11_goesOn_470 ic_4 ?_
    refine rx_iast C (n := 20) sm_26 dX11_goesOn_471 (fun _ => ?_)
    refine rx_lts (fun σ61 => ?_)
    refine rx_aload_n C 0 dX11_goesOn_472 rfl rfl ?_
    refine rx_callVv C [] [] (m_X11_ahead z.l C.inj σ61) mv_X11_ahead lk_X11_256 sm_0 rfl rfl rfl (Nat.le_of_ble_eq_true rfl) ⟨Nat.le_of_ble_eq_true rfl, Nat.le_of_ble_eq_true rfl⟩ dX11_goesOn_473 (fun q62 => ?_)
    refine rx_aload_n C 0 dX11_goesOn_476 rfl rfl ?_
    refine rx_iconst C dX11_goesOn_477 ic_0 ?_
    refine rx_putI C (k := 48) sm_0 fc_X11 (by decide) rfl lk_X11_158 rfl ⟨rfl, rfl⟩ dX11_goesOn_478 ?_
    refine rx_lts (fun σ63 => ?_)
    refine rx_iconst C dX11_goesOn_481 ic_1 ?_
    exact rx_zretC C dX11_goesOn_482 rfl
  · refine rx_iconst C dX11_goesOn_458 ic_0 ?_
    exact rx_zretC C dX11_goesOn_459 rfl
set_option maxRecDepth 100000 in
set_option maxHeartbeats 4000000 in
theorem w_X11_goesOn_578 {α : Nat → Nat} {D : va_G} {cA : Nat → ClassId} {z : Cz} (C : CX shM α D cA z RX11 cX11_goesOn 5 (some .boolean) 2 47) (σ : St) : RX emI shM α D cA z 5 σ 578 [(0, .ref (α 0))] [] (f_X11_goesOn_578 σ) := by
  unfold f_X11_goesOn_578
  refine rx_aload_n C 0 dX11_goesOn_578 rfl rfl ?_
  refine rx_callVv C [] [] (m_X11_ahead z.l C.inj σ) mv_X11_ahead lk_X11_256 sm_0 rfl rfl rfl (Nat.le_of_ble_eq_true rfl) ⟨Nat.le_of_ble_eq_true rfl, Nat.le_of_ble_eq_true rfl⟩ dX11_goesOn_579 (fun q71 => ?_)
  refine rx_iconst C dX11_goesOn_582 ic_1 ?_
  exact rx_zretC C dX11_goesOn_583 rfl
set_option maxRecDepth 100000 in
set_option maxHeartbeats 4000000 in
theorem w_X11_goesOn_561 {α : Nat → Nat} {D : va_G} {cA : Nat → ClassId} {z : Cz} (C : CX shM α D cA z RX11 cX11_goesOn 5 (some .boolean) 2 47) (x2 : Int32) (σ : St) : RX emI shM α D cA z 5 σ 561 [(0, .ref (α 0)), (2, .int x2)] [] (f_X11_goesOn_561 x2 σ) := by
  unfold f_X11_goesOn_561
  refine rx_iload_n C 1 dX11_goesOn_561 rfl rfl ?_
  refine rx_iconst C dX11_goesOn_562 ic_5 ?_
  refine rx_icmp_ne C (tgt := 578) dX11_goesOn_563 (by decide) (fun _ => ?_) (fun _ => ?_)
  · refine rx_aload_n C 0 dX11_goesOn_566 rfl rfl ?_
    refine rx_getC C (k := 40) sm_0 fc_X11 (by decide) 27 rfl lk_X11_133 dX11_goesOn_567 ?_
    refine rx_aload_n C 0 dX11_goesOn_570 rfl rfl ?_
    refine rx_getI C (k := 44) sm_0 fc_X11 (by decide) rfl lk_X11_146 dX11_goesOn_571 ?_
    refine rx_iconst C dX11_goesOn_574 ic_1 ?_
    refine rx_isub C dX11_goesOn_575 ?_
    refine rx_iconst C dX11_goesOn_576 ic_2 ?_
    refine rx_iast C (n := 20) sm_27 dX11_goesOn_577 (fun _ => ?_)
    refine rx_lts (fun σ70 => ?_)
    exact RX.loc (w_X11_goesOn_578 C σ70) [0] rfl
  · exact RX.loc (w_X11_goesOn_578 C σ) [0] rfl
set_option maxRecDepth 100000 in
set_option maxHeartbeats 4000000 in
theorem w_X11_goesOn_511 {α : Nat → Nat} {D : va_G} {cA : Nat → ClassId} {z : Cz} (C : CX shM α D cA z RX11 cX11_goesOn 5 (some .boolean) 2 47) (x1 : Int32) (x2 : Int32) (σ : St) : RX emI shM α D cA z 5 σ 511 [(0, .ref (α 0)), (1, .int x1), (2, .int x2)] [] (f_X11_goesOn_511 x1 x2 σ) := by
  unfold f_X11_goesOn_511
  refine rx_aload_n C 0 dX11_goesOn_511 rfl rfl ?_
  refine rx_getI C (k := 8) sm_0 fc_X11 (by decide) rfl lk_X11_36 dX11_goesOn_512 ?_
  refine rx_if_le C (tgt := 520) dX11_goesOn_515 (by decide) (fun _ => ?_) (fun _ => ?_)
  · refine rx_aload_n C 0 dX11_goesOn_520 rfl rfl ?_
    refine rx_iconst C dX11_goesOn_521 ic_1 ?_
    refine rx_callVv C [.int (1 : Int32)] [] (m_X11_joins z.l C.inj (1 : Int32) σ) mv_X11_joins lk_X11_335 sm_0 rfl rfl rfl (Nat.le_of_ble_eq_true rfl) ⟨Nat.le_of_ble_eq_true rfl, Nat.le_of_ble_eq_true rfl⟩ dX11_goesOn_522 (fun q66 => ?_)
    refine rx_aload_n C 0 dX11_goesOn_525 rfl rfl ?_
    refine rx_dup C dX11_goesOn_526 rfl ?_
    refine rx_getI C (k := 44) sm_0 fc_X11 (by decide) rfl lk_X11_146 dX11_goesOn_527 ?_
    refine rx_iconst C dX11_goesOn_530 ic_1 ?_
    refine rx_isub C dX11_goesOn_531 ?_
    refine rx_putI C (k := 44) sm_0 fc_X11 (by decide) rfl lk_X11_146 rfl ⟨rfl, rfl⟩ dX11_goesOn_532 ?_
    refine rx_lts (fun σ67 => ?_)
    refine rx_aload_n C 0 dX11_goesOn_535 rfl rfl ?_
    refine rx_dup C dX11_goesOn_536 rfl ?_
    refine rx_getI C (k := 45) sm_0 fc_X11 (by decide) rfl lk_X11_149 dX11_goesOn_537 ?_
    refine rx_iconst C dX11_goesOn_540 ic_1 ?_
    refine rx_isub C dX11_goesOn_541 ?_
    refine rx_putI C (k := 45) sm_0 fc_X11 (by decide) rfl lk_X11_149 rfl ⟨rfl, rfl⟩ dX11_goesOn_542 ?_
    refine rx_lts (fun σ68 => ?_)
    refine rx_iload_n C 2 dX11_goesOn_545 rfl rfl ?_
    refine rx_iconst C dX11_goesOn_546 ic_4 ?_
    refine rx_icmp_ne C (tgt := 561) dX11_goesOn_547 (by decide) (fun _ => ?_) (fun _ => ?_)
    · refine rx_aload_n C 0 dX11_goesOn_550 rfl rfl ?_
      refine rx_aload_n C 0 dX11_goesOn_551 rfl rfl ?_
      refine rx_getC C (k := 42) sm_0 fc_X11 (by decide) 29 rfl lk_X11_140 dX11_goesOn_552 ?_
      refine rx_iload_n C 1 dX11_goesOn_555 rfl rfl ?_
      refine rx_iald C (n := 20) sm_29 dX11_goesOn_556 (fun _ => ?_)
      refine rx_iconst C dX11_goesOn_557 ic_0 ?_
      refine rx_callVv C [.int (gI σ68 29 (ix x1)), .int (0 : Int32)] [] (m_X11_add z.l C.inj (gI σ68 29 (ix x1)) (0 : Int32) σ68) mv_X11_add lk_X11_316 sm_0 rfl rfl rfl (Nat.le_of_ble_eq_true rfl) ⟨Nat.le_of_ble_eq_true rfl, Nat.le_of_ble_eq_true rfl⟩ dX11_goesOn_558 (fun q69 => ?_)
      exact RX.loc (w_X11_goesOn_561 C x2 q69.2) [0, 2] rfl
    · exact RX.loc (w_X11_goesOn_561 C x2 σ68) [0, 2] rfl
  · refine rx_iconst C dX11_goesOn_518 ic_0 ?_
    exact rx_zretC C dX11_goesOn_519 rfl
set_option maxRecDepth 100000 in
set_option maxHeartbeats 4000000 in
theorem w_X11_goesOn_496 {α : Nat → Nat} {D : va_G} {cA : Nat → ClassId} {z : Cz} (C : CX shM α D cA z RX11 cX11_goesOn 5 (some .boolean) 2 47) (x1 : Int32) (x2 : Int32) (s1 : Int32) (σ : St) : RX emI shM α D cA z 5 σ 496 [(0, .ref (α 0)), (1, .int x1), (2, .int x2)] [.int s1, .ref (α 0)] (f_X11_goesOn_496 x1 x2 s1 σ) := by
  unfold f_X11_goesOn_496
  refine rx_callVi C [.int s1] [] (m_X11_isSign z.l C.inj s1 σ) mv_X11_isSign lk_X11_253 sm_0 rfl rfl rfl (Nat.le_of_ble_eq_true rfl) ⟨Nat.le_of_ble_eq_true rfl, Nat.le_of_ble_eq_true rfl⟩ dX11_goesOn_496 (fun q64 => ?_)
  refine rx_if_ne C (tgt := 511) dX11_goesOn_499 (by decide) (fun _ => ?_) (fun _ => ?_)
  · refine rx_aload_n C 0 dX11_goesOn_502 rfl rfl ?_
    refine rx_iconst C dX11_goesOn_503 ic_1 ?_
    refine rx_aload_n C 0 dX11_goesOn_504 rfl rfl ?_
    refine rx_getI C (k := 4) sm_0 fc_X11 (by decide) rfl lk_X11_23 dX11_goesOn_505 ?_
    refine rx_callVv C [.int (1 : Int32), .int (gI q64.2 0 4)] [] (m_X11_blame z.l C.inj (1 : Int32) (gI q64.2 0 4) q64.2) mv_X11_blame lk_X11_249 sm_0 rfl rfl rfl (Nat.le_of_ble_eq_true rfl) ⟨Nat.le_of_ble_eq_true rfl, Nat.le_of_ble_eq_true rfl⟩ dX11_goesOn_508 (fun q65 => ?_)
    exact RX.loc (w_X11_goesOn_511 C x1 x2 q65.2) [0, 1, 2] rfl
  · exact RX.loc (w_X11_goesOn_511 C x1 x2 q64.2) [0, 1, 2] rfl
set_option maxRecDepth 100000 in
set_option maxHeartbeats 4000000 in
theorem w_X11_goesOn_426 {α : Nat → Nat} {D : va_G} {cA : Nat → ClassId} {z : Cz} (C : CX shM α D cA z RX11 cX11_goesOn 5 (some .boolean) 2 47) (σ : St) : RX emI shM α D cA z 5 σ 426 [] [] (f_X11_goesOn_426 σ) := by
  unfold f_X11_goesOn_426
  refine rx_iconst C dX11_goesOn_426 ic_0 ?_
  exact rx_zretC C dX11_goesOn_427 rfl
set_option maxRecDepth 100000 in
set_option maxHeartbeats 4000000 in
theorem w_X11_goesOn_409 {α : Nat → Nat} {D : va_G} {cA : Nat → ClassId} {z : Cz} (C : CX shM α D cA z RX11 cX11_goesOn 5 (some .boolean) 2 47) (x1 : Int32) (x2 : Int32) (σ : St) : RX emI shM α D cA z 5 σ 409 [(0, .ref (α 0)), (1, .int x1), (2, .int x2)] [] (f_X11_goesOn_409 x1 x2 σ) := by
  unfold f_X11_goesOn_409
  refine rx_iload_n C 2 dX11_goesOn_409 rfl rfl ?_
  refine rx_iconst C dX11_goesOn_410 ic_2 ?_
  refine rx_icmp_ge C (tgt := 428) dX11_goesOn_411 (by decide) (fun _ => ?_) (fun _ => ?_)
  · refine rx_iload_n C 2 dX11_goesOn_428 rfl rfl ?_
    refine rx_iconst C dX11_goesOn_429 ic_3 ?_
    refine rx_icmp_ne C (tgt := 483) dX11_goesOn_430 (by decide) (fun _ => ?_) (fun _ => ?_)
    · refine rx_aload_n C 0 dX11_goesOn_433 rfl rfl ?_
      refine rx_bipush C dX11_goesOn_434 bp_44 ?_
      refine rx_callVi C [.int (44 : Int32)] [] (m_X11_isSign z.l C.inj (44 : Int32) σ) mv_X11_isSign lk_X11_253 sm_0 rfl rfl rfl (Nat.le_of_ble_eq_true rfl) ⟨Nat.le_of_ble_eq_true rfl, Nat.le_of_ble_eq_true rfl⟩ dX11_goesOn_436 (fun q58 => ?_)
      refine rx_if_ne C (tgt := 451) dX11_goesOn_439 (by decide) (fun _ => ?_) (fun _ => ?_)
      · refine rx_aload_n C 0 dX11_goesOn_442 rfl rfl ?_
        refine rx_iconst C dX11_goesOn_443 ic_1 ?_
        refine rx_aload_n C 0 dX11_goesOn_444 rfl rfl ?_
        refine rx_getI C (k := 4) sm_0 fc_X11 (by decide) rfl lk_X11_23 dX11_goesOn_445 ?_
        refine rx_callVv C [.int (1 : Int32), .int (gI q58.2 0 4)] [] (m_X11_blame z.l C.inj (1 : Int32) (gI q58.2 0 4) q58.2) mv_X11_blame lk_X11_249 sm_0 rfl rfl rfl (Nat.le_of_ble_eq_true rfl) ⟨Nat.le_of_ble_eq_true rfl, Nat.le_of_ble_eq_true rfl⟩ dX11_goesOn_448 (fun q59 => ?_)
        exact RX.loc (w_X11_goesOn_451 C x1 q59.2) [0, 1] rfl
      · exact RX.loc (w_X11_goesOn_451 C x1 q58.2) [0, 1] rfl
    · refine rx_aload_n C 0 dX11_goesOn_483 rfl rfl ?_
      refine rx_iload_n C 2 dX11_goesOn_484 rfl rfl ?_
      refine rx_iconst C dX11_goesOn_485 ic_5 ?_
      refine rx_icmp_ne C (tgt := 494) dX11_goesOn_486 (by decide) (fun _ => ?_) (fun _ => ?_)
      · refine rx_bipush C dX11_goesOn_489 bp_93 ?_
        refine rx_goto C (tgt := 496) dX11_goesOn_491 (by decide) ?_
        exact RX.loc (w_X11_goesOn_496 C x1 x2 (93 : Int32) σ) [0, 1, 2] rfl
      · refine rx_bipush C dX11_goesOn_494 bp_41 ?_
        exact RX.loc (w_X11_goesOn_496 C x1 x2 (41 : Int32) σ) [0, 1, 2] rfl
  · refine rx_aload_n C 0 dX11_goesOn_414 rfl rfl ?_
    refine rx_getI C (k := 8) sm_0 fc_X11 (by decide) rfl lk_X11_36 dX11_goesOn_415 ?_
    refine rx_if_ne C (tgt := 426) dX11_goesOn_418 (by decide) (fun _ => ?_) (fun _ => ?_)
    · refine rx_aload_n C 0 dX11_goesOn_421 rfl rfl ?_
      refine rx_iconst C dX11_goesOn_422 ic_1 ?_
      refine rx_callVv C [.int (1 : Int32)] [] (m_X11_joins z.l C.inj (1 : Int32) σ) mv_X11_joins lk_X11_335 sm_0 rfl rfl rfl (Nat.le_of_ble_eq_true rfl) ⟨Nat.le_of_ble_eq_true rfl, Nat.le_of_ble_eq_true rfl⟩ dX11_goesOn_423 (fun q72 => ?_)
      exact RX.loc (w_X11_goesOn_426 C q72.2) [] rfl
    · exact RX.loc (w_X11_goesOn_426 C σ) [] rfl
set_option maxRecDepth 100000 in
set_option maxHeartbeats 4000000 in
theorem w_X11_goesOn_387 {α : Nat → Nat} {D : va_G} {cA : Nat → ClassId} {z : Cz} (C : CX shM α D cA z RX11 cX11_goesOn 5 (some .boolean) 2 47) (x1 : Int32) (x2 : Int32) (x3 : Int32) (σ : St) : RX emI shM α D cA z 5 σ 387 [(0, .ref (α 0)), (1, .int x1), (2, .int x2), (3, .int x3)] [] (f_X11_goesOn_387 x1 x2 x3 σ) := by
  unfold f_X11_goesOn_387
  refine rx_iload_n C 3 dX11_goesOn_387 rfl rfl ?_
  refine rx_if_eq C (tgt := 409) dX11_goesOn_388 (by decide) (fun _ => ?_) (fun _ => ?_)
  · exact RX.loc (w_X11_goesOn_409 C x1 x2 σ) [0, 1, 2] rfl
  · refine rx_aload_n C 0 dX11_goesOn_391 rfl rfl ?_
    refine rx_getC C (k := 40) sm_0 fc_X11 (by decide) 27 rfl lk_X11_133 dX11_goesOn_392 ?_
    refine rx_iload_n C 1 dX11_goesOn_395 rfl rfl ?_
    refine rx_iald C (n := 20) sm_27 dX11_goesOn_396 (fun _ => ?_)
    refine rx_if_ne C (tgt := 409) dX11_goesOn_397 (by decide) (fun _ => ?_) (fun _ => ?_)
    · refine rx_aload_n C 0 dX11_goesOn_400 rfl rfl ?_
      refine rx_iconst C dX11_goesOn_401 ic_1 ?_
      refine rx_aload_n C 0 dX11_goesOn_402 rfl rfl ?_
      refine rx_getI C (k := 4) sm_0 fc_X11 (by decide) rfl lk_X11_23 dX11_goesOn_403 ?_
      refine rx_callVv C [.int (1 : Int32), .int (gI σ 0 4)] [] (m_X11_blame z.l C.inj (1 : Int32) (gI σ 0 4) σ) mv_X11_blame lk_X11_249 sm_0 rfl rfl rfl (Nat.le_of_ble_eq_true rfl) ⟨Nat.le_of_ble_eq_true rfl, Nat.le_of_ble_eq_true rfl⟩ dX11_goesOn_406 (fun q73 => ?_)
      exact RX.loc (w_X11_goesOn_409 C x1 x2 q73.2) [0, 1, 2] rfl
    · exact RX.loc (w_X11_goesOn_409 C x1 x2 σ) [0, 1, 2] rfl
set_option maxRecDepth 100000 in
set_option maxHeartbeats 4000000 in
theorem w_X11_goesOn_359 {α : Nat → Nat} {D : va_G} {cA : Nat → ClassId} {z : Cz} (C : CX shM α D cA z RX11 cX11_goesOn 5 (some .boolean) 2 47) (x1 : Int32) (s1 : Int32) (σ : St) : RX emI shM α D cA z 5 σ 359 [(0, .ref (α 0)), (1, .int x1)] [.int s1, .ref (α 0)] (f_X11_goesOn_359 x1 s1 σ) := by
  unfold f_X11_goesOn_359
  refine rx_callVv C [.int s1] [] (m_X11_holdsBack z.l C.inj s1 σ) mv_X11_holdsBack lk_X11_329 sm_0 rfl rfl rfl (Nat.le_of_ble_eq_true rfl) ⟨Nat.le_of_ble_eq_true rfl, Nat.le_of_ble_eq_true rfl⟩ dX11_goesOn_359 (fun q79 => ?_)
  refine rx_aload_n C 0 dX11_goesOn_362 rfl rfl ?_
  refine rx_getC C (k := 40) sm_0 fc_X11 (by decide) 27 rfl lk_X11_133 dX11_goesOn_363 ?_
  refine rx_iload_n C 1 dX11_goesOn_366 rfl rfl ?_
  refine rx_iconst C dX11_goesOn_367 ic_0 ?_
  refine rx_iast C (n := 20) sm_27 dX11_goesOn_368 (fun _ => ?_)
  refine rx_lts (fun σ80 => ?_)
  refine rx_aload_n C 0 dX11_goesOn_369 rfl rfl ?_
  refine rx_getC C (k := 41) sm_0 fc_X11 (by decide) 28 rfl lk_X11_136 dX11_goesOn_370 ?_
  refine rx_iload_n C 1 dX11_goesOn_373 rfl rfl ?_
  refine rx_iconst C dX11_goesOn_374 ic_1 ?_
  refine rx_zast C (n := 20) sm_28 dX11_goesOn_375 (fun _ => ?_)
  refine rx_lts (fun σ81 => ?_)
  refine rx_aload_n C 0 dX11_goesOn_376 rfl rfl ?_
  refine rx_callVv C [] [] (m_X11_ahead z.l C.inj σ81) mv_X11_ahead lk_X11_256 sm_0 rfl rfl rfl (Nat.le_of_ble_eq_true rfl) ⟨Nat.le_of_ble_eq_true rfl, Nat.le_of_ble_eq_true rfl⟩ dX11_goesOn_377 (fun q82 => ?_)
  refine rx_aload_n C 0 dX11_goesOn_380 rfl rfl ?_
  refine rx_iconst C dX11_goesOn_381 ic_0 ?_
  refine rx_putI C (k := 48) sm_0 fc_X11 (by decide) rfl lk_X11_158 rfl ⟨rfl, rfl⟩ dX11_goesOn_382 ?_
  refine rx_lts (fun σ83 => ?_)
  refine rx_iconst C dX11_goesOn_385 ic_1 ?_
  exact rx_zretC C dX11_goesOn_386 rfl
set_option maxRecDepth 100000 in
set_option maxHeartbeats 4000000 in
theorem w_X11_goesOn_343 {α : Nat → Nat} {D : va_G} {cA : Nat → ClassId} {z : Cz} (C : CX shM α D cA z RX11 cX11_goesOn 5 (some .boolean) 2 47) (x1 : Int32) (x4 : Int32) (s1 : Int32) (σ : St) : RX emI shM α D cA z 5 σ 343 [(0, .ref (α 0)), (1, .int x1), (4, .int x4)] [.int s1, .ref (α 0)] (f_X11_goesOn_343 x1 x4 s1 σ) := by
  unfold f_X11_goesOn_343
  refine rx_callVv C [.int s1] [] (m_X11_joins z.l C.inj s1 σ) mv_X11_joins lk_X11_335 sm_0 rfl rfl rfl (Nat.le_of_ble_eq_true rfl) ⟨Nat.le_of_ble_eq_true rfl, Nat.le_of_ble_eq_true rfl⟩ dX11_goesOn_343 (fun q78 => ?_)
  refine rx_aload_n C 0 dX11_goesOn_346 rfl rfl ?_
  refine rx_iload C 2 dX11_goesOn_347 rfl ?_
  refine rx_if_eq C (tgt := 357) dX11_goesOn_349 (by decide) (fun _ => ?_) (fun _ => ?_)
  · refine rx_bipush C dX11_goesOn_357 bp_21 ?_
    exact RX.loc (w_X11_goesOn_359 C x1 (21 : Int32) q78.2) [0, 1] rfl
  · refine rx_bipush C dX11_goesOn_352 bp_20 ?_
    refine rx_goto C (tgt := 359) dX11_goesOn_354 (by decide) ?_
    exact RX.loc (w_X11_goesOn_359 C x1 (20 : Int32) q78.2) [0, 1] rfl
set_option maxRecDepth 100000 in
set_option maxHeartbeats 4000000 in
theorem w_X11_goesOn_314 {α : Nat → Nat} {D : va_G} {cA : Nat → ClassId} {z : Cz} (C : CX shM α D cA z RX11 cX11_goesOn 5 (some .boolean) 2 47) (x1 : Int32) (σ : St) : RX emI shM α D cA z 5 σ 314 [(0, .ref (α 0)), (1, .int x1)] [] (f_X11_goesOn_314 x1 σ) := by
  unfold f_X11_goesOn_314
  refine rx_aload_n C 0 dX11_goesOn_314 rfl rfl ?_
  refine rx_getI C (k := 8) sm_0 fc_X11 (by decide) rfl lk_X11_36 dX11_goesOn_315 ?_
  refine rx_if_le C (tgt := 323) dX11_goesOn_318 (by decide) (fun _ => ?_) (fun _ => ?_)
  · refine rx_aload_n C 0 dX11_goesOn_323 rfl rfl ?_
    refine rx_ldc2_w C lk_X11_289 dX11_goesOn_324 ?_
    refine rx_callVi C [.long (6385252 : Int64)] [] (m_X11_isWord z.l C.inj (6385252 : Int64) σ) mv_X11_isWord lk_X11_325 sm_0 rfl rfl rfl (Nat.le_of_ble_eq_true rfl) ⟨Nat.le_of_ble_eq_true rfl, Nat.le_of_ble_eq_true rfl⟩ dX11_goesOn_327 (fun q77 => ?_)
    refine rx_istore C [(4, .int q77.1), (0, .ref (α 0)), (1, .int x1)] dX11_goesOn_330 (by decide) rfl ?_
    refine rx_aload_n C 1 dX11_goesOn_332 rfl rfl ?_
    refine rx_iload C 0 dX11_goesOn_333 rfl ?_
    refine rx_if_eq C (tgt := 342) dX11_goesOn_335 (by decide) (fun _ => ?_) (fun _ => ?_)
    · refine rx_iconst C dX11_goesOn_342 ic_1 ?_
      exact RX.loc (w_X11_goesOn_343 C x1 q77.1 (1 : Int32) q77.2) [1, 2, 0] rfl
    · refine rx_iconst C dX11_goesOn_338 ic_2 ?_
      refine rx_goto C (tgt := 343) dX11_goesOn_339 (by decide) ?_
      exact RX.loc (w_X11_goesOn_343 C x1 q77.1 (2 : Int32) q77.2) [1, 2, 0] rfl
  · refine rx_iconst C dX11_goesOn_321 ic_0 ?_
    exact rx_zretC C dX11_goesOn_322 rfl
set_option maxRecDepth 100000 in
set_option maxHeartbeats 4000000 in
theorem w_X11_goesOn_296 {α : Nat → Nat} {D : va_G} {cA : Nat → ClassId} {z : Cz} (C : CX shM α D cA z RX11 cX11_goesOn 5 (some .boolean) 2 47) (x1 : Int32) (σ : St) : RX emI shM α D cA z 5 σ 296 [(0, .ref (α 0)), (1, .int x1)] [] (f_X11_goesOn_296 x1 σ) := by
  unfold f_X11_goesOn_296
  refine rx_aload_n C 0 dX11_goesOn_296 rfl rfl ?_
  refine rx_getC C (k := 40) sm_0 fc_X11 (by decide) 27 rfl lk_X11_133 dX11_goesOn_297 ?_
  refine rx_iload_n C 1 dX11_goesOn_300 rfl rfl ?_
  refine rx_iald C (n := 20) sm_27 dX11_goesOn_301 (fun _ => ?_)
  refine rx_if_ne C (tgt := 314) dX11_goesOn_302 (by decide) (fun _ => ?_) (fun _ => ?_)
  · refine rx_aload_n C 0 dX11_goesOn_305 rfl rfl ?_
    refine rx_iconst C dX11_goesOn_306 ic_1 ?_
    refine rx_aload_n C 0 dX11_goesOn_307 rfl rfl ?_
    refine rx_getI C (k := 4) sm_0 fc_X11 (by decide) rfl lk_X11_23 dX11_goesOn_308 ?_
    refine rx_callVv C [.int (1 : Int32), .int (gI σ 0 4)] [] (m_X11_blame z.l C.inj (1 : Int32) (gI σ 0 4) σ) mv_X11_blame lk_X11_249 sm_0 rfl rfl rfl (Nat.le_of_ble_eq_true rfl) ⟨Nat.le_of_ble_eq_true rfl, Nat.le_of_ble_eq_true rfl⟩ dX11_goesOn_311 (fun q76 => ?_)
    exact RX.loc (w_X11_goesOn_314 C x1 q76.2) [0, 1] rfl
  · exact RX.loc (w_X11_goesOn_314 C x1 σ) [0, 1] rfl
set_option maxRecDepth 100000 in
set_option maxHeartbeats 4000000 in
theorem w_X11_goesOn_272 {α : Nat → Nat} {D : va_G} {cA : Nat → ClassId} {z : Cz} (C : CX shM α D cA z RX11 cX11_goesOn 5 (some .boolean) 2 47) (x1 : Int32) (x2 : Int32) (x3 : Int32) (σ : St) : RX emI shM α D cA z 5 σ 272 [(0, .ref (α 0)), (1, .int x1), (2, .int x2), (3, .int x3)] [] (f_X11_goesOn_272 x1 x2 x3 σ) := by
  unfold f_X11_goesOn_272
  refine rx_iload_n C 3 dX11_goesOn_272 rfl rfl ?_
  refine rx_if_eq C (tgt := 387) dX11_goesOn_273 (by decide) (fun _ => ?_) (fun _ => ?_)
  · exact RX.loc (w_X11_goesOn_387 C x1 x2 x3 σ) [0, 1, 2, 3] rfl
  · refine rx_aload_n C 0 dX11_goesOn_276 rfl rfl ?_
    refine rx_ldc2_w C lk_X11_289 dX11_goesOn_277 ?_
    refine rx_callVi C [.long (6385252 : Int64)] [] (m_X11_isWord z.l C.inj (6385252 : Int64) σ) mv_X11_isWord lk_X11_325 sm_0 rfl rfl rfl (Nat.le_of_ble_eq_true rfl) ⟨Nat.le_of_ble_eq_true rfl, Nat.le_of_ble_eq_true rfl⟩ dX11_goesOn_280 (fun q74 => ?_)
    refine rx_if_ne C (tgt := 296) dX11_goesOn_283 (by decide) (fun _ => ?_) (fun _ => ?_)
    · refine rx_aload_n C 0 dX11_goesOn_286 rfl rfl ?_
      refine rx_ldc2_w C lk_X11_287 dX11_goesOn_287 ?_
      refine rx_callVi C [.long (28530 : Int64)] [] (m_X11_isWord z.l C.inj (28530 : Int64) q74.2) mv_X11_isWord lk_X11_325 sm_0 rfl rfl rfl (Nat.le_of_ble_eq_true rfl) ⟨Nat.le_of_ble_eq_true rfl, Nat.le_of_ble_eq_true rfl⟩ dX11_goesOn_290 (fun q75 => ?_)
      refine rx_if_eq C (tgt := 387) dX11_goesOn_293 (by decide) (fun _ => ?_) (fun _ => ?_)
      · exact RX.loc (w_X11_goesOn_387 C x1 x2 x3 q75.2) [0, 1, 2, 3] rfl
      · exact RX.loc (w_X11_goesOn_296 C x1 q75.2) [0, 1] rfl
    · exact RX.loc (w_X11_goesOn_296 C x1 q74.2) [0, 1] rfl
set_option maxRecDepth 100000 in
set_option maxHeartbeats 4000000 in
theorem w_X11_goesOn_251 {α : Nat → Nat} {D : va_G} {cA : Nat → ClassId} {z : Cz} (C : CX shM α D cA z RX11 cX11_goesOn 5 (some .boolean) 2 47) (x1 : Int32) (s1 : Int32) (σ : St) : RX emI shM α D cA z 5 σ 251 [(0, .ref (α 0)), (1, .int x1)] [.int s1, .ref (α 0)] (f_X11_goesOn_251 x1 s1 σ) := by
  unfold f_X11_goesOn_251
  refine rx_callVv C [.int s1] [] (m_X11_holdsBack z.l C.inj s1 σ) mv_X11_holdsBack lk_X11_329 sm_0 rfl rfl rfl (Nat.le_of_ble_eq_true rfl) ⟨Nat.le_of_ble_eq_true rfl, Nat.le_of_ble_eq_true rfl⟩ dX11_goesOn_251 (fun q90 => ?_)
  refine rx_aload_n C 0 dX11_goesOn_254 rfl rfl ?_
  refine rx_getC C (k := 40) sm_0 fc_X11 (by decide) 27 rfl lk_X11_133 dX11_goesOn_255 ?_
  refine rx_iload_n C 1 dX11_goesOn_258 rfl rfl ?_
  refine rx_iconst C dX11_goesOn_259 ic_1 ?_
  refine rx_iast C (n := 20) sm_27 dX11_goesOn_260 (fun _ => ?_)
  refine rx_lts (fun σ91 => ?_)
  refine rx_aload_n C 0 dX11_goesOn_261 rfl rfl ?_
  refine rx_callVv C [] [] (m_X11_ahead z.l C.inj σ91) mv_X11_ahead lk_X11_256 sm_0 rfl rfl rfl (Nat.le_of_ble_eq_true rfl) ⟨Nat.le_of_ble_eq_true rfl, Nat.le_of_ble_eq_true rfl⟩ dX11_goesOn_262 (fun q92 => ?_)
  refine rx_aload_n C 0 dX11_goesOn_265 rfl rfl ?_
  refine rx_iconst C dX11_goesOn_266 ic_0 ?_
  refine rx_putI C (k := 48) sm_0 fc_X11 (by decide) rfl lk_X11_158 rfl ⟨rfl, rfl⟩ dX11_goesOn_267 ?_
  refine rx_lts (fun σ93 => ?_)
  refine rx_iconst C dX11_goesOn_270 ic_1 ?_
  exact rx_zretC C dX11_goesOn_271 rfl
set_option maxRecDepth 100000 in
set_option maxHeartbeats 4000000 in
theorem w_X11_goesOn_215 {α : Nat → Nat} {D : va_G} {cA : Nat → ClassId} {z : Cz} (C : CX shM α D cA z RX11 cX11_goesOn 5 (some .boolean) 2 47) (x1 : Int32) (σ : St) : RX emI shM α D cA z 5 σ 215 [(0, .ref (α 0)), (1, .int x1)] [] (f_X11_goesOn_215 x1 σ) := by
  unfold f_X11_goesOn_215
  refine rx_aload_n C 0 dX11_goesOn_215 rfl rfl ?_
  refine rx_iconst C dX11_goesOn_216 ic_5 ?_
  refine rx_callVv C [.int (5 : Int32)] [] (m_X11_joins z.l C.inj (5 : Int32) σ) mv_X11_joins lk_X11_335 sm_0 rfl rfl rfl (Nat.le_of_ble_eq_true rfl) ⟨Nat.le_of_ble_eq_true rfl, Nat.le_of_ble_eq_true rfl⟩ dX11_goesOn_217 (fun q87 => ?_)
  refine rx_aload_n C 0 dX11_goesOn_220 rfl rfl ?_
  refine rx_aload_n C 0 dX11_goesOn_221 rfl rfl ?_
  refine rx_bipush C dX11_goesOn_222 bp_60 ?_
  refine rx_callVi C [.int (60 : Int32)] [.ref (α 0)] (m_X11_isSign z.l C.inj (60 : Int32) q87.2) mv_X11_isSign lk_X11_253 sm_0 rfl rfl rfl (Nat.le_of_ble_eq_true rfl) ⟨Nat.le_of_ble_eq_true rfl, Nat.le_of_ble_eq_true rfl⟩ dX11_goesOn_224 (fun q88 => ?_)
  refine rx_if_eq C (tgt := 235) dX11_goesOn_227 (by decide) (fun _ => ?_) (fun _ => ?_)
  · refine rx_aload_n C 0 dX11_goesOn_235 rfl rfl ?_
    refine rx_bipush C dX11_goesOn_236 bp_62 ?_
    refine rx_callVi C [.int (62 : Int32)] [.ref (α 0)] (m_X11_isSign z.l C.inj (62 : Int32) q88.2) mv_X11_isSign lk_X11_253 sm_0 rfl rfl rfl (Nat.le_of_ble_eq_true rfl) ⟨Nat.le_of_ble_eq_true rfl, Nat.le_of_ble_eq_true rfl⟩ dX11_goesOn_238 (fun q89 => ?_)
    refine rx_if_eq C (tgt := 249) dX11_goesOn_241 (by decide) (fun _ => ?_) (fun _ => ?_)
    · refine rx_bipush C dX11_goesOn_249 bp_19 ?_
      exact RX.loc (w_X11_goesOn_251 C x1 (19 : Int32) q89.2) [0, 1] rfl
    · refine rx_bipush C dX11_goesOn_244 bp_18 ?_
      refine rx_goto C (tgt := 251) dX11_goesOn_246 (by decide) ?_
      exact RX.loc (w_X11_goesOn_251 C x1 (18 : Int32) q89.2) [0, 1] rfl
  · refine rx_bipush C dX11_goesOn_230 bp_17 ?_
    refine rx_goto C (tgt := 251) dX11_goesOn_232 (by decide) ?_
    exact RX.loc (w_X11_goesOn_251 C x1 (17 : Int32) q88.2) [0, 1] rfl
set_option maxRecDepth 100000 in
set_option maxHeartbeats 4000000 in
theorem w_X11_goesOn_175 {α : Nat → Nat} {D : va_G} {cA : Nat → ClassId} {z : Cz} (C : CX shM α D cA z RX11 cX11_goesOn 5 (some .boolean) 2 47) (x1 : Int32) (x2 : Int32) (x3 : Int32) (σ : St) : RX emI shM α D cA z 5 σ 175 [(0, .ref (α 0)), (1, .int x1), (2, .int x2), (3, .int x3)] [] (f_X11_goesOn_175 x1 x2 x3 σ) := by
  unfold f_X11_goesOn_175
  refine rx_iload_n C 3 dX11_goesOn_175 rfl rfl ?_
  refine rx_if_eq C (tgt := 272) dX11_goesOn_176 (by decide) (fun _ => ?_) (fun _ => ?_)
  · exact RX.loc (w_X11_goesOn_272 C x1 x2 x3 σ) [0, 1, 2, 3] rfl
  · refine rx_aload_n C 0 dX11_goesOn_179 rfl rfl ?_
    refine rx_getC C (k := 40) sm_0 fc_X11 (by decide) 27 rfl lk_X11_133 dX11_goesOn_180 ?_
    refine rx_iload_n C 1 dX11_goesOn_183 rfl rfl ?_
    refine rx_iald C (n := 20) sm_27 dX11_goesOn_184 (fun _ => ?_)
    refine rx_if_ne C (tgt := 272) dX11_goesOn_185 (by decide) (fun _ => ?_) (fun _ => ?_)
    · refine rx_aload_n C 0 dX11_goesOn_188 rfl rfl ?_
      refine rx_bipush C dX11_goesOn_189 bp_60 ?_
      refine rx_callVi C [.int (60 : Int32)] [] (m_X11_isSign z.l C.inj (60 : Int32) σ) mv_X11_isSign lk_X11_253 sm_0 rfl rfl rfl (Nat.le_of_ble_eq_true rfl) ⟨Nat.le_of_ble_eq_true rfl, Nat.le_of_ble_eq_true rfl⟩ dX11_goesOn_191 (fun q84 => ?_)
      refine rx_if_ne C (tgt := 215) dX11_goesOn_194 (by decide) (fun _ => ?_) (fun _ => ?_)
      · refine rx_aload_n C 0 dX11_goesOn_197 rfl rfl ?_
        refine rx_bipush C dX11_goesOn_198 bp_62 ?_
        refine rx_callVi C [.int (62 : Int32)] [] (m_X11_isSign z.l C.inj (62 : Int32) q84.2) mv_X11_isSign lk_X11_253 sm_0 rfl rfl rfl (Nat.le_of_ble_eq_true rfl) ⟨Nat.le_of_ble_eq_true rfl, Nat.le_of_ble_eq_true rfl⟩ dX11_goesOn_200 (fun q85 => ?_)
        refine rx_if_ne C (tgt := 215) dX11_goesOn_203 (by decide) (fun _ => ?_) (fun _ => ?_)
        · refine rx_aload_n C 0 dX11_goesOn_206 rfl rfl ?_
          refine rx_bipush C dX11_goesOn_207 bp_61 ?_
          refine rx_callVi C [.int (61 : Int32)] [] (m_X11_isSign z.l C.inj (61 : Int32) q85.2) mv_X11_isSign lk_X11_253 sm_0 rfl rfl rfl (Nat.le_of_ble_eq_true rfl) ⟨Nat.le_of_ble_eq_true rfl, Nat.le_of_ble_eq_true rfl⟩ dX11_goesOn_209 (fun q86 => ?_)
          refine rx_if_eq C (tgt := 272) dX11_goesOn_212 (by decide) (fun _ => ?_) (fun _ => ?_)
          · exact RX.loc (w_X11_goesOn_272 C x1 x2 x3 q86.2) [0, 1, 2, 3] rfl
          · exact RX.loc (w_X11_goesOn_215 C x1 q86.2) [0, 1] rfl
        · exact RX.loc (w_X11_goesOn_215 C x1 q85.2) [0, 1] rfl
      · exact RX.loc (w_X11_goesOn_215 C x1 q84.2) [0, 1] rfl
    · exact RX.loc (w_X11_goesOn_272 C x1 x2 x3 σ) [0, 1, 2, 3] rfl
set_option maxRecDepth 100000 in
set_option maxHeartbeats 4000000 in
theorem w_X11_goesOn_161 {α : Nat → Nat} {D : va_G} {cA : Nat → ClassId} {z : Cz} (C : CX shM α D cA z RX11 cX11_goesOn 5 (some .boolean) 2 47) (s1 : Int32) (σ : St) : RX emI shM α D cA z 5 σ 161 [(0, .ref (α 0))] [.int s1, .ref (α 0)] (f_X11_goesOn_161 s1 σ) := by
  unfold f_X11_goesOn_161
  refine rx_callVv C [.int s1] [] (m_X11_holdsBack z.l C.inj s1 σ) mv_X11_holdsBack lk_X11_329 sm_0 rfl rfl rfl (Nat.le_of_ble_eq_true rfl) ⟨Nat.le_of_ble_eq_true rfl, Nat.le_of_ble_eq_true rfl⟩ dX11_goesOn_161 (fun q106 => ?_)
  refine rx_aload_n C 0 dX11_goesOn_164 rfl rfl ?_
  refine rx_callVv C [] [] (m_X11_ahead z.l C.inj q106.2) mv_X11_ahead lk_X11_256 sm_0 rfl rfl rfl (Nat.le_of_ble_eq_true rfl) ⟨Nat.le_of_ble_eq_true rfl, Nat.le_of_ble_eq_true rfl⟩ dX11_goesOn_165 (fun q107 => ?_)
  refine rx_aload_n C 0 dX11_goesOn_168 rfl rfl ?_
  refine rx_iconst C dX11_goesOn_169 ic_0 ?_
  refine rx_putI C (k := 48) sm_0 fc_X11 (by decide) rfl lk_X11_158 rfl ⟨rfl, rfl⟩ dX11_goesOn_170 ?_
  refine rx_lts (fun σ108 => ?_)
  refine rx_iconst C dX11_goesOn_173 ic_1 ?_
  exact rx_zretC C dX11_goesOn_174 rfl
set_option maxRecDepth 100000 in
set_option maxHeartbeats 4000000 in
theorem w_X11_goesOn_99 {α : Nat → Nat} {D : va_G} {cA : Nat → ClassId} {z : Cz} (C : CX shM α D cA z RX11 cX11_goesOn 5 (some .boolean) 2 47) (s1 : Int32) (σ : St) : RX emI shM α D cA z 5 σ 99 [(0, .ref (α 0))] [.int s1, .ref (α 0)] (f_X11_goesOn_99 s1 σ) := by
  unfold f_X11_goesOn_99
  refine rx_callVv C [.int s1] [] (m_X11_joins z.l C.inj s1 σ) mv_X11_joins lk_X11_335 sm_0 rfl rfl rfl (Nat.le_of_ble_eq_true rfl) ⟨Nat.le_of_ble_eq_true rfl, Nat.le_of_ble_eq_true rfl⟩ dX11_goesOn_99 (fun q101 => ?_)
  refine rx_aload_n C 0 dX11_goesOn_102 rfl rfl ?_
  refine rx_aload_n C 0 dX11_goesOn_103 rfl rfl ?_
  refine rx_bipush C dX11_goesOn_104 bp_43 ?_
  refine rx_callVi C [.int (43 : Int32)] [.ref (α 0)] (m_X11_isSign z.l C.inj (43 : Int32) q101.2) mv_X11_isSign lk_X11_253 sm_0 rfl rfl rfl (Nat.le_of_ble_eq_true rfl) ⟨Nat.le_of_ble_eq_true rfl, Nat.le_of_ble_eq_true rfl⟩ dX11_goesOn_106 (fun q102 => ?_)
  refine rx_if_eq C (tgt := 117) dX11_goesOn_109 (by decide) (fun _ => ?_) (fun _ => ?_)
  · refine rx_aload_n C 0 dX11_goesOn_117 rfl rfl ?_
    refine rx_bipush C dX11_goesOn_118 bp_45 ?_
    refine rx_callVi C [.int (45 : Int32)] [.ref (α 0)] (m_X11_isSign z.l C.inj (45 : Int32) q102.2) mv_X11_isSign lk_X11_253 sm_0 rfl rfl rfl (Nat.le_of_ble_eq_true rfl) ⟨Nat.le_of_ble_eq_true rfl, Nat.le_of_ble_eq_true rfl⟩ dX11_goesOn_120 (fun q103 => ?_)
    refine rx_if_eq C (tgt := 131) dX11_goesOn_123 (by decide) (fun _ => ?_) (fun _ => ?_)
    · refine rx_aload_n C 0 dX11_goesOn_131 rfl rfl ?_
      refine rx_bipush C dX11_goesOn_132 bp_42 ?_
      refine rx_callVi C [.int (42 : Int32)] [.ref (α 0)] (m_X11_isSign z.l C.inj (42 : Int32) q103.2) mv_X11_isSign lk_X11_253 sm_0 rfl rfl rfl (Nat.le_of_ble_eq_true rfl) ⟨Nat.le_of_ble_eq_true rfl, Nat.le_of_ble_eq_true rfl⟩ dX11_goesOn_134 (fun q104 => ?_)
      refine rx_if_eq C (tgt := 145) dX11_goesOn_137 (by decide) (fun _ => ?_) (fun _ => ?_)
      · refine rx_aload_n C 0 dX11_goesOn_145 rfl rfl ?_
        refine rx_bipush C dX11_goesOn_146 bp_47 ?_
        refine rx_callVi C [.int (47 : Int32)] [.ref (α 0)] (m_X11_isSign z.l C.inj (47 : Int32) q104.2) mv_X11_isSign lk_X11_253 sm_0 rfl rfl rfl (Nat.le_of_ble_eq_true rfl) ⟨Nat.le_of_ble_eq_true rfl, Nat.le_of_ble_eq_true rfl⟩ dX11_goesOn_148 (fun q105 => ?_)
        refine rx_if_eq C (tgt := 159) dX11_goesOn_151 (by decide) (fun _ => ?_) (fun _ => ?_)
        · refine rx_bipush C dX11_goesOn_159 bp_14 ?_
          exact RX.loc (w_X11_goesOn_161 C (14 : Int32) q105.2) [0] rfl
        · refine rx_bipush C dX11_goesOn_154 bp_13 ?_
          refine rx_goto C (tgt := 161) dX11_goesOn_156 (by decide) ?_
          exact RX.loc (w_X11_goesOn_161 C (13 : Int32) q105.2) [0] rfl
      · refine rx_bipush C dX11_goesOn_140 bp_12 ?_
        refine rx_goto C (tgt := 161) dX11_goesOn_142 (by decide) ?_
        exact RX.loc (w_X11_goesOn_161 C (12 : Int32) q104.2) [0] rfl
    · refine rx_bipush C dX11_goesOn_126 bp_11 ?_
      refine rx_goto C (tgt := 161) dX11_goesOn_128 (by decide) ?_
      exact RX.loc (w_X11_goesOn_161 C (11 : Int32) q103.2) [0] rfl
  · refine rx_bipush C dX11_goesOn_112 bp_10 ?_
    refine rx_goto C (tgt := 161) dX11_goesOn_114 (by decide) ?_
    exact RX.loc (w_X11_goesOn_161 C (10 : Int32) q102.2) [0] rfl
set_option maxRecDepth 100000 in
set_option maxHeartbeats 4000000 in
theorem w_X11_goesOn_93 {α : Nat → Nat} {D : va_G} {cA : Nat → ClassId} {z : Cz} (C : CX shM α D cA z RX11 cX11_goesOn 5 (some .boolean) 2 47) (σ : St) : RX emI shM α D cA z 5 σ 93 [(0, .ref (α 0))] [.ref (α 0)] (f_X11_goesOn_93 σ) := by
  unfold f_X11_goesOn_93
  refine rx_iconst C dX11_goesOn_93 ic_5 ?_
  refine rx_goto C (tgt := 99) dX11_goesOn_94 (by decide) ?_
  exact RX.loc (w_X11_goesOn_99 C (5 : Int32) σ) [0] rfl
set_option maxRecDepth 100000 in
set_option maxHeartbeats 4000000 in
theorem w_X11_goesOn_74 {α : Nat → Nat} {D : va_G} {cA : Nat → ClassId} {z : Cz} (C : CX shM α D cA z RX11 cX11_goesOn 5 (some .boolean) 2 47) (σ : St) : RX emI shM α D cA z 5 σ 74 [(0, .ref (α 0))] [] (f_X11_goesOn_74 σ) := by
  unfold f_X11_goesOn_74
  refine rx_aload_n C 0 dX11_goesOn_74 rfl rfl ?_
  refine rx_aload_n C 0 dX11_goesOn_75 rfl rfl ?_
  refine rx_bipush C dX11_goesOn_76 bp_43 ?_
  refine rx_callVi C [.int (43 : Int32)] [.ref (α 0)] (m_X11_isSign z.l C.inj (43 : Int32) σ) mv_X11_isSign lk_X11_253 sm_0 rfl rfl rfl (Nat.le_of_ble_eq_true rfl) ⟨Nat.le_of_ble_eq_true rfl, Nat.le_of_ble_eq_true rfl⟩ dX11_goesOn_78 (fun q99 => ?_)
  refine rx_if_ne C (tgt := 93) dX11_goesOn_81 (by decide) (fun _ => ?_) (fun _ => ?_)
  · refine rx_aload_n C 0 dX11_goesOn_84 rfl rfl ?_
    refine rx_bipush C dX11_goesOn_85 bp_45 ?_
    refine rx_callVi C [.int (45 : Int32)] [.ref (α 0)] (m_X11_isSign z.l C.inj (45 : Int32) q99.2) mv_X11_isSign lk_X11_253 sm_0 rfl rfl rfl (Nat.le_of_ble_eq_true rfl) ⟨Nat.le_of_ble_eq_true rfl, Nat.le_of_ble_eq_true rfl⟩ dX11_goesOn_87 (fun q100 => ?_)
    refine rx_if_eq C (tgt := 97) dX11_goesOn_90 (by decide) (fun _ => ?_) (fun _ => ?_)
    · refine rx_bipush C dX11_goesOn_97 bp_6 ?_
      exact RX.loc (w_X11_goesOn_99 C (6 : Int32) q100.2) [0] rfl
    · exact RX.loc (w_X11_goesOn_93 C q100.2) [0] rfl
  · exact RX.loc (w_X11_goesOn_93 C q99.2) [0] rfl
set_option maxRecDepth 100000 in
set_option maxHeartbeats 4000000 in
theorem w_X11_goesOn_e {α : Nat → Nat} {D : va_G} {cA : Nat → ClassId} {z : Cz} (C : CX shM α D cA z RX11 cX11_goesOn 5 (some .boolean) 2 47) (σ : St) : RX emI shM α D cA z 5 σ 0 [(0, .ref (α 0))] [] (f_X11_goesOn σ) := by
  unfold f_X11_goesOn
  refine rx_aload_n C 0 dX11_goesOn_0 rfl rfl ?_
  refine rx_getI C (k := 44) sm_0 fc_X11 (by decide) rfl lk_X11_146 dX11_goesOn_1 ?_
  refine rx_iconst C dX11_goesOn_4 ic_1 ?_
  refine rx_isub C dX11_goesOn_5 ?_
  refine rx_lti (fun w55 => ?_)
  refine rx_istore_n C [(1, .int w55), (0, .ref (α 0))] dX11_goesOn_6 rfl (by decide) rfl ?_
  refine rx_aload_n C 1 dX11_goesOn_7 rfl rfl ?_
  refine rx_getC C (k := 39) sm_0 fc_X11 (by decide) 26 rfl lk_X11_130 dX11_goesOn_8 ?_
  refine rx_iload_n C 0 dX11_goesOn_11 rfl rfl ?_
  refine rx_iald C (n := 20) sm_26 dX11_goesOn_12 (fun _ => ?_)
  refine rx_lti (fun w56 => ?_)
  refine rx_istore_n C [(2, .int w56), (1, .int w55), (0, .ref (α 0))] dX11_goesOn_13 rfl (by decide) rfl ?_
  refine rx_iload_n C 0 dX11_goesOn_14 rfl rfl ?_
  refine rx_callSi C [.int w56] [] (m_X11_isTest z.l C.inj w56 σ) ms_X11_isTest lk_X11_322 rfl rfl (Nat.le_of_ble_eq_true rfl) ⟨Nat.le_of_ble_eq_true rfl, Nat.le_of_ble_eq_true rfl⟩ dX11_goesOn_15 (fun q57 => ?_)
  refine rx_istore_n C [(3, .int q57.1), (2, .int w56), (1, .int w55), (0, .ref (α 0))] dX11_goesOn_18 rfl (by decide) rfl ?_
  refine rx_aload_n C 3 dX11_goesOn_19 rfl rfl ?_
  refine rx_getC C (k := 40) sm_0 fc_X11 (by decide) 27 rfl lk_X11_133 dX11_goesOn_20 ?_
  refine rx_iload_n C 2 dX11_goesOn_23 rfl rfl ?_
  refine rx_iald C (n := 20) sm_27 dX11_goesOn_24 (fun _ => ?_)
  refine rx_iconst C dX11_goesOn_25 ic_2 ?_
  refine rx_icmp_ge C (tgt := 175) dX11_goesOn_26 (by decide) (fun _ => ?_) (fun _ => ?_)
  · exact RX.loc (w_X11_goesOn_175 C w55 w56 q57.1 q57.2) [3, 2, 1, 0] rfl
  · refine rx_aload_n C 3 dX11_goesOn_29 rfl rfl ?_
    refine rx_bipush C dX11_goesOn_30 bp_43 ?_
    refine rx_callVi C [.int (43 : Int32)] [] (m_X11_isSign z.l C.inj (43 : Int32) q57.2) mv_X11_isSign lk_X11_253 sm_0 rfl rfl rfl (Nat.le_of_ble_eq_true rfl) ⟨Nat.le_of_ble_eq_true rfl, Nat.le_of_ble_eq_true rfl⟩ dX11_goesOn_32 (fun q94 => ?_)
    refine rx_if_ne C (tgt := 74) dX11_goesOn_35 (by decide) (fun _ => ?_) (fun _ => ?_)
    · refine rx_aload_n C 3 dX11_goesOn_38 rfl rfl ?_
      refine rx_bipush C dX11_goesOn_39 bp_45 ?_
      refine rx_callVi C [.int (45 : Int32)] [] (m_X11_isSign z.l C.inj (45 : Int32) q94.2) mv_X11_isSign lk_X11_253 sm_0 rfl rfl rfl (Nat.le_of_ble_eq_true rfl) ⟨Nat.le_of_ble_eq_true rfl, Nat.le_of_ble_eq_true rfl⟩ dX11_goesOn_41 (fun q95 => ?_)
      refine rx_if_ne C (tgt := 74) dX11_goesOn_44 (by decide) (fun _ => ?_) (fun _ => ?_)
      · refine rx_aload_n C 3 dX11_goesOn_47 rfl rfl ?_
        refine rx_bipush C dX11_goesOn_48 bp_42 ?_
        refine rx_callVi C [.int (42 : Int32)] [] (m_X11_isSign z.l C.inj (42 : Int32) q95.2) mv_X11_isSign lk_X11_253 sm_0 rfl rfl rfl (Nat.le_of_ble_eq_true rfl) ⟨Nat.le_of_ble_eq_true rfl, Nat.le_of_ble_eq_true rfl⟩ dX11_goesOn_50 (fun q96 => ?_)
        refine rx_if_ne C (tgt := 74) dX11_goesOn_53 (by decide) (fun _ => ?_) (fun _ => ?_)
        · refine rx_aload_n C 3 dX11_goesOn_56 rfl rfl ?_
          refine rx_bipush C dX11_goesOn_57 bp_47 ?_
          refine rx_callVi C [.int (47 : Int32)] [] (m_X11_isSign z.l C.inj (47 : Int32) q96.2) mv_X11_isSign lk_X11_253 sm_0 rfl rfl rfl (Nat.le_of_ble_eq_true rfl) ⟨Nat.le_of_ble_eq_true rfl, Nat.le_of_ble_eq_true rfl⟩ dX11_goesOn_59 (fun q97 => ?_)
          refine rx_if_ne C (tgt := 74) dX11_goesOn_62 (by decide) (fun _ => ?_) (fun _ => ?_)
          · refine rx_aload_n C 3 dX11_goesOn_65 rfl rfl ?_
            refine rx_bipush C dX11_goesOn_66 bp_37 ?_
            refine rx_callVi C [.int (37 : Int32)] [] (m_X11_isSign z.l C.inj (37 : Int32) q97.2) mv_X11_isSign lk_X11_253 sm_0 rfl rfl rfl (Nat.le_of_ble_eq_true rfl) ⟨Nat.le_of_ble_eq_true rfl, Nat.le_of_ble_eq_true rfl⟩ dX11_goesOn_68 (fun q98 => ?_)
            refine rx_if_eq C (tgt := 175) dX11_goesOn_71 (by decide) (fun _ => ?_) (fun _ => ?_)
            · exact RX.loc (w_X11_goesOn_175 C w55 w56 q57.1 q98.2) [3, 2, 1, 0] rfl
            · exact RX.loc (w_X11_goesOn_74 C q98.2) [3] rfl
          · exact RX.loc (w_X11_goesOn_74 C q97.2) [3] rfl
        · exact RX.loc (w_X11_goesOn_74 C q96.2) [3] rfl
      · exact RX.loc (w_X11_goesOn_74 C q95.2) [3] rfl
    · exact RX.loc (w_X11_goesOn_74 C q94.2) [3] rfl
theorem m_X11_goesOn (l : Launch) {α : Nat → Nat} {D : va_G} {cA : Nat → ClassId} (hin : inj shM.length α) (σ : St) : CT shM l yX11_goesOn cX11_goesOn 5 (some .boolean) 2 47 emI α D cA [.ref (α 0)] σ (f_X11_goesOn σ) := ct_of rfl (Nat.le_of_ble_eq_true rfl) hin (fun z _ C => w_X11_goesOn_e C σ)
