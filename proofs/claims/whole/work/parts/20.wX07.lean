set_option maxRecDepth 100000 in
set_option maxHeartbeats 4000000 in
theorem w_X10_seed_e {α : Nat → Nat} {D : va_G} {cA : Nat → ClassId} {z : Cz} (C : CX shX α D cA z RX10 cX10_seed 2 (some .boolean) 2 44) (x1 : Int32) (σ : St) : RX emI shX α D cA z 2 σ 0 [(0, .ref (α 0)), (1, .int x1)] [] (f_X10_seed x1 σ) := by
  unfold f_X10_seed
  refine rx_aload_n C 0 dX10_seed_0 rfl rfl ?_
  refine rx_aload_n C 0 dX10_seed_1 rfl rfl ?_
  refine rx_getC C (k := 5) sx_0 fc_X10 (by decide) 18 rfl lk_X10_62 dX10_seed_2 ?_
  refine rx_iload_n C 1 dX10_seed_5 rfl rfl ?_
  refine rx_callVi C [.int x1] [.ref (α 0)] (m_X1_sow z.l C.inj x1 σ) mv_X1_sow lk_X10_279 sx_18 rfl rfl rfl (Nat.le_of_ble_eq_true rfl) ⟨Nat.le_of_ble_eq_true rfl, Nat.le_of_ble_eq_true rfl⟩ dX10_seed_6 (fun q3 => ?_)
  refine rx_iconst C dX10_seed_9 ic_4 ?_
  refine rx_callVi C [.int q3.1, .int (4 : Int32)] [] (m_X10_granted z.l C.inj q3.1 (4 : Int32) q3.2) mv_X10_granted lk_X10_91 sx_0 rfl rfl rfl (Nat.le_of_ble_eq_true rfl) ⟨Nat.le_of_ble_eq_true rfl, Nat.le_of_ble_eq_true rfl⟩ dX10_seed_10 (fun q4 => ?_)
  exact rx_zret C dX10_seed_13
theorem m_X10_seed (l : Launch) {α : Nat → Nat} {D : va_G} {cA : Nat → ClassId} (hin : inj shX.length α) (x1 : Int32) (σ : St) : CT shX l yX10_seed cX10_seed 2 (some .boolean) 2 44 emI α D cA [.ref (α 0), .int x1] σ (f_X10_seed x1 σ) := ct_of rfl (Nat.le_of_ble_eq_true rfl) hin (fun z _ C => w_X10_seed_e C x1 σ)
set_option maxRecDepth 100000 in
set_option maxHeartbeats 4000000 in
theorem w_X10_signed_28 {α : Nat → Nat} {D : va_G} {cA : Nat → ClassId} {z : Cz} (C : CX shX α D cA z RX10 cX10_signed 3 (some .int) 3 68) (σ : St) : RX emI shX α D cA z 3 σ 28 [] [] (f_X10_signed_28 σ) := by
  unfold f_X10_signed_28
  refine rx_iconst C dX10_signed_28 ic_m1 ?_
  exact rx_iret C dX10_signed_29
set_option maxRecDepth 100000 in
set_option maxHeartbeats 4000000 in
theorem w_X10_signed_e {α : Nat → Nat} {D : va_G} {cA : Nat → ClassId} {z : Cz} (C : CX shX α D cA z RX10 cX10_signed 3 (some .int) 3 68) (x1 : Int32) (x2 : Int32) (σ : St) : RX emI shX α D cA z 3 σ 0 [(0, .ref (α 0)), (1, .int x1), (2, .int x2)] [] (f_X10_signed x1 x2 σ) := by
  unfold f_X10_signed
  refine rx_aload_n C 0 dX10_signed_0 rfl rfl ?_
  refine rx_getC C (k := 4) sx_0 fc_X10 (by decide) 6 rfl lk_X10_53 dX10_signed_1 ?_
  refine rx_getR C (k := 0) sx_6 fc_X2 (by decide) rfl lk_X10_106 dX10_signed_4 ?_
  refine rx_ltr (fun g4 => ?_)
  refine rx_if (fun hg4 => ?_) (fun _ => rx_none)
  refine rx_getC C (k := 1) (ld_sh (landB_is hg4)) fc_X4 (by decide) (g4 + 4) rfl lk_X10_124 dX10_signed_7 ?_
  refine rx_iload_n C 1 dX10_signed_10 rfl rfl ?_
  refine rx_callVi C [.int x1] [] (m_X8_holds z.l C.inj (g4 + 4) (ld_4 (landB_is hg4)) x1 σ) mv_X8_holds lk_X10_165 (ro_sh (ld_4 (landB_is hg4))) rfl rfl rfl (Nat.le_of_ble_eq_true rfl) ⟨Nat.le_of_ble_eq_true rfl, Nat.le_of_ble_eq_true rfl⟩ dX10_signed_11 (fun q5 => ?_)
  refine rx_if_eq C (tgt := 28) dX10_signed_14 (by decide) (fun _ => ?_) (fun _ => ?_)
  · exact RX.loc (w_X10_signed_28 C q5.2) [] rfl
  · refine rx_iload_n C 2 dX10_signed_17 rfl rfl ?_
    refine rx_if_lt C (tgt := 28) dX10_signed_18 (by decide) (fun _ => ?_) (fun _ => ?_)
    · exact RX.loc (w_X10_signed_28 C q5.2) [] rfl
    · refine rx_iload_n C 2 dX10_signed_21 rfl rfl ?_
      refine rx_sipush C dX10_signed_22 sp_999 ?_
      refine rx_icmp_le C (tgt := 30) dX10_signed_25 (by decide) (fun _ => ?_) (fun _ => ?_)
      · refine rx_aload_n C 0 dX10_signed_30 rfl rfl ?_
        refine rx_getC C (k := 4) sx_0 fc_X10 (by decide) 6 rfl lk_X10_53 dX10_signed_31 ?_
        refine rx_iload_n C 1 dX10_signed_34 rfl rfl ?_
        refine rx_iload_n C 2 dX10_signed_35 rfl rfl ?_
        refine rx_callVi C [.int x1, .int x2] [] (m_X2_signers z.l C.inj x1 x2 q5.2) mv_X2_signers lk_X10_282 sx_6 rfl rfl rfl (Nat.le_of_ble_eq_true rfl) ⟨Nat.le_of_ble_eq_true rfl, Nat.le_of_ble_eq_true rfl⟩ dX10_signed_36 (fun q6 => ?_)
        exact rx_iret C dX10_signed_39
      · exact RX.loc (w_X10_signed_28 C q5.2) [] rfl
theorem m_X10_signed (l : Launch) {α : Nat → Nat} {D : va_G} {cA : Nat → ClassId} (hin : inj shX.length α) (x1 : Int32) (x2 : Int32) (σ : St) : CT shX l yX10_signed cX10_signed 3 (some .int) 3 68 emI α D cA [.ref (α 0), .int x1, .int x2] σ (f_X10_signed x1 x2 σ) := ct_of rfl (Nat.le_of_ble_eq_true rfl) hin (fun z _ C => w_X10_signed_e C x1 x2 σ)
set_option maxRecDepth 100000 in
set_option maxHeartbeats 4000000 in
theorem w_X10_span_e {α : Nat → Nat} {D : va_G} {cA : Nat → ClassId} {z : Cz} (C : CX shX α D cA z RX10 cX10_span 3 (some .int) 2 44) (x1 : Int32) (x2 : Int32) (σ : St) : RX emI shX α D cA z 3 σ 0 [(0, .ref (α 0)), (1, .int x1), (2, .int x2)] [] (f_X10_span x1 x2 σ) := by
  unfold f_X10_span
  refine rx_aload_n C 0 dX10_span_0 rfl rfl ?_
  refine rx_getC C (k := 4) sx_0 fc_X10 (by decide) 6 rfl lk_X10_53 dX10_span_1 ?_
  refine rx_getC C (k := 10) sx_6 fc_X2 (by decide) 13 rfl lk_X10_285 dX10_span_4 ?_
  refine rx_iload_n C 1 dX10_span_7 rfl rfl ?_
  refine rx_iload_n C 2 dX10_span_8 rfl rfl ?_
  refine rx_callVi C [.int x1, .int x2] [] (m_X7_get z.l C.inj 13 rn_13 x1 x2 σ) mv_X7_get lk_X10_288 sx_13 rfl rfl rfl (Nat.le_of_ble_eq_true rfl) ⟨Nat.le_of_ble_eq_true rfl, Nat.le_of_ble_eq_true rfl⟩ dX10_span_9 (fun q2 => ?_)
  exact rx_iret C dX10_span_12
theorem m_X10_span (l : Launch) {α : Nat → Nat} {D : va_G} {cA : Nat → ClassId} (hin : inj shX.length α) (x1 : Int32) (x2 : Int32) (σ : St) : CT shX l yX10_span cX10_span 3 (some .int) 2 44 emI α D cA [.ref (α 0), .int x1, .int x2] σ (f_X10_span x1 x2 σ) := ct_of rfl (Nat.le_of_ble_eq_true rfl) hin (fun z _ C => w_X10_span_e C x1 x2 σ)
set_option maxRecDepth 100000 in
set_option maxHeartbeats 4000000 in
theorem w_X10_moved_e {α : Nat → Nat} {D : va_G} {cA : Nat → ClassId} {z : Cz} (C : CX shX α D cA z RX10 cX10_moved 3 (some .int) 2 44) (x1 : Int32) (x2 : Int32) (σ : St) : RX emI shX α D cA z 3 σ 0 [(0, .ref (α 0)), (1, .int x1), (2, .int x2)] [] (f_X10_moved x1 x2 σ) := by
  unfold f_X10_moved
  refine rx_aload_n C 0 dX10_moved_0 rfl rfl ?_
  refine rx_getC C (k := 5) sx_0 fc_X10 (by decide) 18 rfl lk_X10_62 dX10_moved_1 ?_
  refine rx_getC C (k := 2) sx_18 fc_X1 (by decide) 19 rfl lk_X10_145 dX10_moved_4 ?_
  refine rx_iload_n C 1 dX10_moved_7 rfl rfl ?_
  refine rx_iload_n C 2 dX10_moved_8 rfl rfl ?_
  refine rx_callVi C [.int x1, .int x2] [] (m_X7_get z.l C.inj 19 rn_19 x1 x2 σ) mv_X7_get lk_X10_288 sx_19 rfl rfl rfl (Nat.le_of_ble_eq_true rfl) ⟨Nat.le_of_ble_eq_true rfl, Nat.le_of_ble_eq_true rfl⟩ dX10_moved_9 (fun q2 => ?_)
  exact rx_iret C dX10_moved_12
theorem m_X10_moved (l : Launch) {α : Nat → Nat} {D : va_G} {cA : Nat → ClassId} (hin : inj shX.length α) (x1 : Int32) (x2 : Int32) (σ : St) : CT shX l yX10_moved cX10_moved 3 (some .int) 2 44 emI α D cA [.ref (α 0), .int x1, .int x2] σ (f_X10_moved x1 x2 σ) := ct_of rfl (Nat.le_of_ble_eq_true rfl) hin (fun z _ C => w_X10_moved_e C x1 x2 σ)
set_option maxRecDepth 100000 in
set_option maxHeartbeats 4000000 in
theorem w_X10_share_30 {α : Nat → Nat} {D : va_G} {cA : Nat → ClassId} {z : Cz} (C : CX shX α D cA z RX10 cX10_share 4 (some .int) 3 75) (σ : St) : RX emI shX α D cA z 4 σ 30 [] [] (f_X10_share_30 σ) := by
  unfold f_X10_share_30
  refine rx_iconst C dX10_share_30 ic_m1 ?_
  exact rx_iret C dX10_share_31
set_option maxRecDepth 100000 in
set_option maxHeartbeats 4000000 in
theorem w_X10_share_e {α : Nat → Nat} {D : va_G} {cA : Nat → ClassId} {z : Cz} (C : CX shX α D cA z RX10 cX10_share 4 (some .int) 3 75) (x1 : Int32) (x2 : Int32) (x3 : Int32) (σ : St) : RX emI shX α D cA z 4 σ 0 [(0, .ref (α 0)), (1, .int x1), (2, .int x2), (3, .int x3)] [] (f_X10_share x1 x2 x3 σ) := by
  unfold f_X10_share
  refine rx_aload_n C 0 dX10_share_0 rfl rfl ?_
  refine rx_getC C (k := 4) sx_0 fc_X10 (by decide) 6 rfl lk_X10_53 dX10_share_1 ?_
  refine rx_iload_n C 1 dX10_share_4 rfl rfl ?_
  refine rx_callVi C [.int x1] [] (m_X2_isPerson z.l C.inj x1 σ) mv_X2_isPerson lk_X10_181 sx_6 rfl rfl rfl (Nat.le_of_ble_eq_true rfl) ⟨Nat.le_of_ble_eq_true rfl, Nat.le_of_ble_eq_true rfl⟩ dX10_share_5 (fun q4 => ?_)
  refine rx_if_eq C (tgt := 30) dX10_share_8 (by decide) (fun _ => ?_) (fun _ => ?_)
  · exact RX.loc (w_X10_share_30 C q4.2) [] rfl
  · refine rx_iload_n C 2 dX10_share_11 rfl rfl ?_
    refine rx_if_lt C (tgt := 30) dX10_share_12 (by decide) (fun _ => ?_) (fun _ => ?_)
    · exact RX.loc (w_X10_share_30 C q4.2) [] rfl
    · refine rx_iload_n C 2 dX10_share_15 rfl rfl ?_
      refine rx_bipush C dX10_share_16 bp_40 ?_
      refine rx_icmp_gt C (tgt := 30) dX10_share_18 (by decide) (fun _ => ?_) (fun _ => ?_)
      · exact RX.loc (w_X10_share_30 C q4.2) [] rfl
      · refine rx_iload_n C 3 dX10_share_21 rfl rfl ?_
        refine rx_if_lt C (tgt := 30) dX10_share_22 (by decide) (fun _ => ?_) (fun _ => ?_)
        · exact RX.loc (w_X10_share_30 C q4.2) [] rfl
        · refine rx_iload_n C 3 dX10_share_25 rfl rfl ?_
          refine rx_iload_n C 2 dX10_share_26 rfl rfl ?_
          refine rx_icmp_le C (tgt := 32) dX10_share_27 (by decide) (fun _ => ?_) (fun _ => ?_)
          · refine rx_aload_n C 0 dX10_share_32 rfl rfl ?_
            refine rx_getC C (k := 4) sx_0 fc_X10 (by decide) 6 rfl lk_X10_53 dX10_share_33 ?_
            refine rx_getR C (k := 0) sx_6 fc_X2 (by decide) rfl lk_X10_106 dX10_share_36 ?_
            refine rx_ltr (fun g5 => ?_)
            refine rx_if (fun hg5 => ?_) (fun _ => rx_none)
            refine rx_iload_n C 1 dX10_share_39 rfl rfl ?_
            refine rx_iload_n C 2 dX10_share_40 rfl rfl ?_
            refine rx_iload_n C 3 dX10_share_41 rfl rfl ?_
            refine rx_callVi C [.int x1, .int x2, .int x3] [] (m_X4_shareOf z.l C.inj g5 (landB_is hg5) x1 x2 x3 q4.2) mv_X4_shareOf lk_X10_289 (ld_sh (landB_is hg5)) rfl rfl rfl (Nat.le_of_ble_eq_true rfl) ⟨Nat.le_of_ble_eq_true rfl, Nat.le_of_ble_eq_true rfl⟩ dX10_share_42 (fun q6 => ?_)
            exact rx_iret C dX10_share_45
          · exact RX.loc (w_X10_share_30 C q4.2) [] rfl
theorem m_X10_share (l : Launch) {α : Nat → Nat} {D : va_G} {cA : Nat → ClassId} (hin : inj shX.length α) (x1 : Int32) (x2 : Int32) (x3 : Int32) (σ : St) : CT shX l yX10_share cX10_share 4 (some .int) 3 75 emI α D cA [.ref (α 0), .int x1, .int x2, .int x3] σ (f_X10_share x1 x2 x3 σ) := ct_of rfl (Nat.le_of_ble_eq_true rfl) hin (fun z _ C => w_X10_share_e C x1 x2 x3 σ)
set_option maxRecDepth 100000 in
set_option maxHeartbeats 4000000 in
theorem w_X10_bullets_20 {α : Nat → Nat} {D : va_G} {cA : Nat → ClassId} {z : Cz} (C : CX shX α D cA z RX10 cX10_bullets 3 (some .int) 26 625) (σ : St) : RX emI shX α D cA z 3 σ 20 [] [] (f_X10_bullets_20 σ) := by
  unfold f_X10_bullets_20
  refine rx_iconst C dX10_bullets_20 ic_m1 ?_
  exact rx_iret C dX10_bullets_21
set_option maxRecDepth 100000 in
set_option maxHeartbeats 4000000 in
theorem w_X10_bullets_65 {α : Nat → Nat} {D : va_G} {cA : Nat → ClassId} {z : Cz} (C : CX shX α D cA z RX10 cX10_bullets 3 (some .int) 26 625) (s0 : Int32) (σ : St) : RX emI shX α D cA z 3 σ 65 [] [.int s0] (f_X10_bullets_65 s0 σ) := by
  unfold f_X10_bullets_65
  exact rx_iret C dX10_bullets_65
set_option maxRecDepth 100000 in
set_option maxHeartbeats 4000000 in
theorem w_X10_bullets_e {α : Nat → Nat} {D : va_G} {cA : Nat → ClassId} {z : Cz} (C : CX shX α D cA z RX10 cX10_bullets 3 (some .int) 26 625) (x1 : Int32) (x2 : Int32) (σ : St) : RX emI shX α D cA z 3 σ 0 [(0, .ref (α 0)), (1, .int x1), (2, .int x2)] [] (f_X10_bullets x1 x2 σ) := by
  unfold f_X10_bullets
  refine rx_iload_n C 1 dX10_bullets_0 rfl rfl ?_
  refine rx_if_lt C (tgt := 20) dX10_bullets_1 (by decide) (fun _ => ?_) (fun _ => ?_)
  · exact RX.loc (w_X10_bullets_20 C σ) [] rfl
  · refine rx_iload_n C 1 dX10_bullets_4 rfl rfl ?_
    refine rx_ldc_w C lk_X10_292 dX10_bullets_5 ?_
    refine rx_icmp_gt C (tgt := 20) dX10_bullets_8 (by decide) (fun _ => ?_) (fun _ => ?_)
    · exact RX.loc (w_X10_bullets_20 C σ) [] rfl
    · refine rx_iload_n C 2 dX10_bullets_11 rfl rfl ?_
      refine rx_if_lt C (tgt := 20) dX10_bullets_12 (by decide) (fun _ => ?_) (fun _ => ?_)
      · exact RX.loc (w_X10_bullets_20 C σ) [] rfl
      · refine rx_iload_n C 2 dX10_bullets_15 rfl rfl ?_
        refine rx_iconst C dX10_bullets_16 ic_1 ?_
        refine rx_icmp_le C (tgt := 22) dX10_bullets_17 (by decide) (fun _ => ?_) (fun _ => ?_)
        · refine rx_aload_n C 0 dX10_bullets_22 rfl rfl ?_
          refine rx_getC C (k := 6) sx_0 fc_X10 (by decide) 24 rfl lk_X10_44 dX10_bullets_23 ?_
          refine rx_aload_n C 0 dX10_bullets_26 rfl rfl ?_
          refine rx_getC C (k := 4) sx_0 fc_X10 (by decide) 6 rfl lk_X10_53 dX10_bullets_27 ?_
          refine rx_getC C (k := 6) sx_6 fc_X2 (by decide) 9 rfl lk_X10_293 dX10_bullets_30 ?_
          refine rx_aload_n C 0 dX10_bullets_33 rfl rfl ?_
          refine rx_getC C (k := 4) sx_0 fc_X10 (by decide) 6 rfl lk_X10_53 dX10_bullets_34 ?_
          refine rx_getI C (k := 3) sx_6 fc_X2 (by decide) rfl lk_X10_142 dX10_bullets_37 ?_
          refine rx_iload_n C 1 dX10_bullets_40 rfl rfl ?_
          refine rx_callVv C [.ref (α 9), .int (gI σ 6 3), .int x1] [] (m_X9_seekBullets z.l C.inj 9 rfl (gI σ 6 3) x1 σ) mv_X9_seekBullets lk_X10_296 sx_24 rfl rfl rfl (Nat.le_of_ble_eq_true rfl) ⟨Nat.le_of_ble_eq_true rfl, Nat.le_of_ble_eq_true rfl⟩ dX10_bullets_41 (fun q2 => ?_)
          refine rx_iload_n C 2 dX10_bullets_44 rfl rfl ?_
          refine rx_if_ne C (tgt := 58) dX10_bullets_45 (by decide) (fun _ => ?_) (fun _ => ?_)
          · refine rx_aload_n C 0 dX10_bullets_48 rfl rfl ?_
            refine rx_getC C (k := 6) sx_0 fc_X10 (by decide) 24 rfl lk_X10_44 dX10_bullets_49 ?_
            refine rx_getI C (k := 11) sx_24 fc_X9 (by decide) rfl lk_X10_300 dX10_bullets_52 ?_
            refine rx_goto C (tgt := 65) dX10_bullets_55 (by decide) ?_
            exact RX.loc (w_X10_bullets_65 C (gI q2.2 24 11) q2.2) [] rfl
          · refine rx_aload_n C 0 dX10_bullets_58 rfl rfl ?_
            refine rx_getC C (k := 6) sx_0 fc_X10 (by decide) 24 rfl lk_X10_44 dX10_bullets_59 ?_
            refine rx_getI C (k := 12) sx_24 fc_X9 (by decide) rfl lk_X10_303 dX10_bullets_62 ?_
            exact RX.loc (w_X10_bullets_65 C (gI q2.2 24 12) q2.2) [] rfl
        · exact RX.loc (w_X10_bullets_20 C σ) [] rfl
theorem m_X10_bullets (l : Launch) {α : Nat → Nat} {D : va_G} {cA : Nat → ClassId} (hin : inj shX.length α) (x1 : Int32) (x2 : Int32) (σ : St) : CT shX l yX10_bullets cX10_bullets 3 (some .int) 26 625 emI α D cA [.ref (α 0), .int x1, .int x2] σ (f_X10_bullets x1 x2 σ) := ct_of rfl (Nat.le_of_ble_eq_true rfl) hin (fun z _ C => w_X10_bullets_e C x1 x2 σ)
set_option maxRecDepth 100000 in
set_option maxHeartbeats 4000000 in
theorem w_X10_row_38 {α : Nat → Nat} {D : va_G} {cA : Nat → ClassId} {z : Cz} (C : CX shX α D cA z RX10 cX10_row 5 (some .int) 3 74) (σ : St) : RX emI shX α D cA z 5 σ 38 [] [] (f_X10_row_38 σ) := by
  unfold f_X10_row_38
  refine rx_iconst C dX10_row_38 ic_m1 ?_
  exact rx_iret C dX10_row_39
set_option maxRecDepth 100000 in
set_option maxHeartbeats 4000000 in
theorem w_X10_row_e {α : Nat → Nat} {D : va_G} {cA : Nat → ClassId} {z : Cz} (C : CX shX α D cA z RX10 cX10_row 5 (some .int) 3 74) (x1 : Int32) (x2 : Int32) (x3 : Int32) (σ : St) : RX emI shX α D cA z 5 σ 0 [(0, .ref (α 0)), (1, .int x1), (2, .int x2), (3, .int x3)] [] (f_X10_row x1 x2 x3 σ) := by
  unfold f_X10_row
  refine rx_aload_n C 0 dX10_row_0 rfl rfl ?_
  refine rx_getC C (k := 4) sx_0 fc_X10 (by decide) 6 rfl lk_X10_53 dX10_row_1 ?_
  refine rx_getR C (k := 0) sx_6 fc_X2 (by decide) rfl lk_X10_106 dX10_row_4 ?_
  refine rx_ltr (fun g11 => ?_)
  refine rx_if (fun hg11 => ?_) (fun _ => rx_none)
  refine rx_astore C [(4, .ref (α g11)), (0, .ref (α 0)), (1, .int x1), (2, .int x2), (3, .int x3)] dX10_row_7 (by decide) rfl ?_
  refine rx_aload C 0 dX10_row_9 rfl ?_
  refine rx_getC C (k := 1) (ld_sh (landB_is hg11)) fc_X4 (by decide) (g11 + 4) rfl lk_X10_124 dX10_row_11 ?_
  refine rx_iload_n C 2 dX10_row_14 rfl rfl ?_
  refine rx_callVi C [.int x1] [] (m_X8_holds z.l C.inj (g11 + 4) (ld_4 (landB_is hg11)) x1 σ) mv_X8_holds lk_X10_165 (ro_sh (ld_4 (landB_is hg11))) rfl rfl rfl (Nat.le_of_ble_eq_true rfl) ⟨Nat.le_of_ble_eq_true rfl, Nat.le_of_ble_eq_true rfl⟩ dX10_row_15 (fun q12 => ?_)
  refine rx_if_eq C (tgt := 38) dX10_row_18 (by decide) (fun _ => ?_) (fun _ => ?_)
  · exact RX.loc (w_X10_row_38 C q12.2) [] rfl
  · refine rx_aload C 0 dX10_row_21 rfl ?_
    refine rx_getC C (k := 1) (ld_sh (landB_is hg11)) fc_X4 (by decide) (g11 + 4) rfl lk_X10_124 dX10_row_23 ?_
    refine rx_iload_n C 3 dX10_row_26 rfl rfl ?_
    refine rx_callVi C [.int x2] [] (m_X8_holds z.l C.inj (g11 + 4) (ld_4 (landB_is hg11)) x2 q12.2) mv_X8_holds lk_X10_165 (ro_sh (ld_4 (landB_is hg11))) rfl rfl rfl (Nat.le_of_ble_eq_true rfl) ⟨Nat.le_of_ble_eq_true rfl, Nat.le_of_ble_eq_true rfl⟩ dX10_row_27 (fun q13 => ?_)
    refine rx_if_eq C (tgt := 38) dX10_row_30 (by decide) (fun _ => ?_) (fun _ => ?_)
    · exact RX.loc (w_X10_row_38 C q13.2) [] rfl
    · refine rx_iload_n C 2 dX10_row_33 rfl rfl ?_
      refine rx_iload_n C 3 dX10_row_34 rfl rfl ?_
      refine rx_icmp_ne C (tgt := 40) dX10_row_35 (by decide) (fun _ => ?_) (fun _ => ?_)
      · exact RX.loc (w_X10_row_38 C q13.2) [] rfl
      · refine rx_iload_n C 4 dX10_row_40 rfl rfl ?_
        refine rx_if (fun hs14 => ?_) (fun hs14 => ?_)
        · refine rx_tableIn C (tgt := 68) (0 : Int32) hs14 dX10_row_41 (by decide) (by decide) rfl (by decide) ?_
          refine rx_aload C 0 dX10_row_68 rfl ?_
          refine rx_iload_n C 2 dX10_row_70 rfl rfl ?_
          refine rx_iload_n C 3 dX10_row_71 rfl rfl ?_
          refine rx_callVi C [.int x1, .int x2] [] (m_X4_pairLength z.l C.inj g11 (landB_is hg11) x1 x2 q13.2) mv_X4_pairLength lk_X10_306 (ld_sh (landB_is hg11)) rfl rfl rfl (Nat.le_of_ble_eq_true rfl) ⟨Nat.le_of_ble_eq_true rfl, Nat.le_of_ble_eq_true rfl⟩ dX10_row_72 (fun q15 => ?_)
          refine rx_aload C 0 dX10_row_75 rfl ?_
          refine rx_iload_n C 2 dX10_row_77 rfl rfl ?_
          refine rx_iload_n C 3 dX10_row_78 rfl rfl ?_
          refine rx_callVi C [.int x1, .int x2] [.int q15.1] (m_X4_shared z.l C.inj g11 (landB_is hg11) x1 x2 q15.2) mv_X4_shared lk_X10_309 (ld_sh (landB_is hg11)) rfl rfl rfl (Nat.le_of_ble_eq_true rfl) ⟨Nat.le_of_ble_eq_true rfl, Nat.le_of_ble_eq_true rfl⟩ dX10_row_79 (fun q16 => ?_)
          refine rx_isub C dX10_row_82 ?_
          exact rx_iret C dX10_row_83
        refine rx_if (fun hs17 => ?_) (fun hs17 => ?_)
        · refine rx_tableIn C (tgt := 84) (1 : Int32) hs17 dX10_row_41 (by decide) (by decide) rfl (by decide) ?_
          refine rx_aload C 0 dX10_row_84 rfl ?_
          refine rx_iload_n C 2 dX10_row_86 rfl rfl ?_
          refine rx_iload_n C 3 dX10_row_87 rfl rfl ?_
          refine rx_callVi C [.int x1, .int x2] [] (m_X4_rowOunces z.l C.inj g11 (landB_is hg11) x1 x2 q13.2) mv_X4_rowOunces lk_X10_312 (ld_sh (landB_is hg11)) rfl rfl rfl (Nat.le_of_ble_eq_true rfl) ⟨Nat.le_of_ble_eq_true rfl, Nat.le_of_ble_eq_true rfl⟩ dX10_row_88 (fun q18 => ?_)
          exact rx_iret C dX10_row_91
        refine rx_if (fun hs19 => ?_) (fun hs19 => ?_)
        · refine rx_tableIn C (tgt := 92) (2 : Int32) hs19 dX10_row_41 (by decide) (by decide) rfl (by decide) ?_
          refine rx_aload C 0 dX10_row_92 rfl ?_
          refine rx_iload_n C 2 dX10_row_94 rfl rfl ?_
          refine rx_iload_n C 3 dX10_row_95 rfl rfl ?_
          refine rx_callVi C [.int x1, .int x2] [] (m_X4_shared z.l C.inj g11 (landB_is hg11) x1 x2 q13.2) mv_X4_shared lk_X10_309 (ld_sh (landB_is hg11)) rfl rfl rfl (Nat.le_of_ble_eq_true rfl) ⟨Nat.le_of_ble_eq_true rfl, Nat.le_of_ble_eq_true rfl⟩ dX10_row_96 (fun q20 => ?_)
          exact rx_iret C dX10_row_99
        refine rx_tableOut C (tgt := 100) dX10_row_41 (by have := lv_neT (a := 0) hs14 (by decide); have := lv_neT (a := 1) hs17 (by decide); have := lv_neT (a := 2) hs19 (by decide); omega) (by decide) ?_
        refine rx_iconst C dX10_row_100 ic_m1 ?_
        exact rx_iret C dX10_row_101
theorem m_X10_row (l : Launch) {α : Nat → Nat} {D : va_G} {cA : Nat → ClassId} (hin : inj shX.length α) (x1 : Int32) (x2 : Int32) (x3 : Int32) (σ : St) : CT shX l yX10_row cX10_row 5 (some .int) 3 74 emI α D cA [.ref (α 0), .int x1, .int x2, .int x3] σ (f_X10_row x1 x2 x3 σ) := ct_of rfl (Nat.le_of_ble_eq_true rfl) hin (fun z _ C => w_X10_row_e C x1 x2 x3 σ)
set_option maxRecDepth 100000 in
set_option maxHeartbeats 4000000 in
theorem w_X10_goings_40 {α : Nat → Nat} {D : va_G} {cA : Nat → ClassId} {z : Cz} (C : CX shX α D cA z RX10 cX10_goings 3 (some .int) 27 621) (σ : St) : RX emI shX α D cA z 3 σ 40 [] [] (f_X10_goings_40 σ) := by
  unfold f_X10_goings_40
  refine rx_iconst C dX10_goings_40 ic_m1 ?_
  exact rx_iret C dX10_goings_41
set_option maxRecDepth 100000 in
set_option maxHeartbeats 4000000 in
theorem w_X10_goings_e {α : Nat → Nat} {D : va_G} {cA : Nat → ClassId} {z : Cz} (C : CX shX α D cA z RX10 cX10_goings 3 (some .int) 27 621) (x1 : Int32) (x2 : Int32) (σ : St) : RX emI shX α D cA z 3 σ 0 [(0, .ref (α 0)), (1, .int x1), (2, .int x2)] [] (f_X10_goings x1 x2 σ) := by
  unfold f_X10_goings
  refine rx_aload_n C 0 dX10_goings_0 rfl rfl ?_
  refine rx_getC C (k := 4) sx_0 fc_X10 (by decide) 6 rfl lk_X10_53 dX10_goings_1 ?_
  refine rx_getR C (k := 0) sx_6 fc_X2 (by decide) rfl lk_X10_106 dX10_goings_4 ?_
  refine rx_ltr (fun g7 => ?_)
  refine rx_if (fun hg7 => ?_) (fun _ => rx_none)
  refine rx_getC C (k := 4) (ld_sh (landB_is hg7)) fc_X4 (by decide) (g7 + 13) rfl lk_X10_133 dX10_goings_7 ?_
  refine rx_iload_n C 1 dX10_goings_10 rfl rfl ?_
  refine rx_callVi C [.int x1] [] (m_X8_holds z.l C.inj (g7 + 13) (ld_13 (landB_is hg7)) x1 σ) mv_X8_holds lk_X10_165 (ro_sh (ld_13 (landB_is hg7))) rfl rfl rfl (Nat.le_of_ble_eq_true rfl) ⟨Nat.le_of_ble_eq_true rfl, Nat.le_of_ble_eq_true rfl⟩ dX10_goings_11 (fun q8 => ?_)
  refine rx_if_eq C (tgt := 40) dX10_goings_14 (by decide) (fun _ => ?_) (fun _ => ?_)
  · exact RX.loc (w_X10_goings_40 C q8.2) [] rfl
  · refine rx_iload_n C 2 dX10_goings_17 rfl rfl ?_
    refine rx_if_lt C (tgt := 40) dX10_goings_18 (by decide) (fun _ => ?_) (fun _ => ?_)
    · exact RX.loc (w_X10_goings_40 C q8.2) [] rfl
    · refine rx_iload_n C 2 dX10_goings_21 rfl rfl ?_
      refine rx_iconst C dX10_goings_22 ic_1 ?_
      refine rx_aload_n C 0 dX10_goings_23 rfl rfl ?_
      refine rx_getC C (k := 4) sx_0 fc_X10 (by decide) 6 rfl lk_X10_53 dX10_goings_24 ?_
      refine rx_getR C (k := 0) sx_6 fc_X2 (by decide) rfl lk_X10_106 dX10_goings_27 ?_
      refine rx_ltr (fun g9 => ?_)
      refine rx_if (fun hg9 => ?_) (fun _ => rx_none)
      refine rx_getC C (k := 0) (ld_sh (landB_is hg9)) fc_X4 (by decide) (g9 + 1) rfl lk_X10_115 dX10_goings_30 ?_
      refine rx_getI C (k := 4) (ro_sh (ld_1 (landB_is hg9))) fc_X8 (by decide) rfl lk_X10_119 dX10_goings_33 ?_
      refine rx_ishl C dX10_goings_36 ?_
      refine rx_icmp_lt C (tgt := 42) dX10_goings_37 (by decide) (fun _ => ?_) (fun _ => ?_)
      · refine rx_aload_n C 0 dX10_goings_42 rfl rfl ?_
        refine rx_getC C (k := 6) sx_0 fc_X10 (by decide) 24 rfl lk_X10_44 dX10_goings_43 ?_
        refine rx_aload_n C 0 dX10_goings_46 rfl rfl ?_
        refine rx_getC C (k := 4) sx_0 fc_X10 (by decide) 6 rfl lk_X10_53 dX10_goings_47 ?_
        refine rx_iload_n C 2 dX10_goings_50 rfl rfl ?_
        refine rx_aload_n C 0 dX10_goings_51 rfl rfl ?_
        refine rx_getC C (k := 4) sx_0 fc_X10 (by decide) 6 rfl lk_X10_53 dX10_goings_52 ?_
        refine rx_getR C (k := 0) sx_6 fc_X2 (by decide) rfl lk_X10_106 dX10_goings_55 ?_
        refine rx_ltr (fun g10 => ?_)
        refine rx_if (fun hg10 => ?_) (fun _ => rx_none)
        refine rx_getC C (k := 4) (ld_sh (landB_is hg10)) fc_X4 (by decide) (g10 + 13) rfl lk_X10_133 dX10_goings_58 ?_
        refine rx_iload_n C 1 dX10_goings_61 rfl rfl ?_
        refine rx_iconst C dX10_goings_62 ic_0 ?_
        refine rx_callVi C [.int x1, .int (0 : Int32)] [.int x2, .ref (α 6), .ref (α 24)] (m_X8_get z.l C.inj (g10 + 13) (ld_13 (landB_is hg10)) x1 (0 : Int32) q8.2) mv_X8_get lk_X10_172 (ro_sh (ld_13 (landB_is hg10))) rfl rfl rfl (Nat.le_of_ble_eq_true rfl) ⟨Nat.le_of_ble_eq_true rfl, Nat.le_of_ble_eq_true rfl⟩ dX10_goings_63 (fun q11 => ?_)
        refine rx_callVi C [.ref (α 6), .int x2, .int q11.1] [] (m_X9_fewestGroups z.l C.inj x2 q11.1 q11.2) mv_X9_fewestGroups lk_X10_315 sx_24 rfl rfl rfl (Nat.le_of_ble_eq_true rfl) ⟨Nat.le_of_ble_eq_true rfl, Nat.le_of_ble_eq_true rfl⟩ dX10_goings_66 (fun q12 => ?_)
        exact rx_iret C dX10_goings_69
      · exact RX.loc (w_X10_goings_40 C q8.2) [] rfl
theorem m_X10_goings (l : Launch) {α : Nat → Nat} {D : va_G} {cA : Nat → ClassId} (hin : inj shX.length α) (x1 : Int32) (x2 : Int32) (σ : St) : CT shX l yX10_goings cX10_goings 3 (some .int) 27 621 emI α D cA [.ref (α 0), .int x1, .int x2] σ (f_X10_goings x1 x2 σ) := ct_of rfl (Nat.le_of_ble_eq_true rfl) hin (fun z _ C => w_X10_goings_e C x1 x2 σ)
set_option maxRecDepth 100000 in
set_option maxHeartbeats 4000000 in
theorem w_X10_common_27 {α : Nat → Nat} {D : va_G} {cA : Nat → ClassId} {z : Cz} (C : CX shX α D cA z RX10 cX10_common 3 (some .int) 4 94) (σ : St) : RX emI shX α D cA z 3 σ 27 [] [] (f_X10_common_27 σ) := by
  unfold f_X10_common_27
  refine rx_iconst C dX10_common_27 ic_m1 ?_
  exact rx_iret C dX10_common_28
set_option maxRecDepth 100000 in
set_option maxHeartbeats 4000000 in
theorem w_X10_common_e {α : Nat → Nat} {D : va_G} {cA : Nat → ClassId} {z : Cz} (C : CX shX α D cA z RX10 cX10_common 3 (some .int) 4 94) (x1 : Int32) (x2 : Int32) (σ : St) : RX emI shX α D cA z 3 σ 0 [(0, .ref (α 0)), (1, .int x1), (2, .int x2)] [] (f_X10_common x1 x2 σ) := by
  unfold f_X10_common
  refine rx_aload_n C 0 dX10_common_0 rfl rfl ?_
  refine rx_getC C (k := 4) sx_0 fc_X10 (by decide) 6 rfl lk_X10_53 dX10_common_1 ?_
  refine rx_iload_n C 1 dX10_common_4 rfl rfl ?_
  refine rx_callVi C [.int x1] [] (m_X2_isPerson z.l C.inj x1 σ) mv_X2_isPerson lk_X10_181 sx_6 rfl rfl rfl (Nat.le_of_ble_eq_true rfl) ⟨Nat.le_of_ble_eq_true rfl, Nat.le_of_ble_eq_true rfl⟩ dX10_common_5 (fun q4 => ?_)
  refine rx_if_eq C (tgt := 27) dX10_common_8 (by decide) (fun _ => ?_) (fun _ => ?_)
  · exact RX.loc (w_X10_common_27 C q4.2) [] rfl
  · refine rx_aload_n C 0 dX10_common_11 rfl rfl ?_
    refine rx_getC C (k := 4) sx_0 fc_X10 (by decide) 6 rfl lk_X10_53 dX10_common_12 ?_
    refine rx_iload_n C 2 dX10_common_15 rfl rfl ?_
    refine rx_callVi C [.int x2] [] (m_X2_isPerson z.l C.inj x2 q4.2) mv_X2_isPerson lk_X10_181 sx_6 rfl rfl rfl (Nat.le_of_ble_eq_true rfl) ⟨Nat.le_of_ble_eq_true rfl, Nat.le_of_ble_eq_true rfl⟩ dX10_common_16 (fun q5 => ?_)
    refine rx_if_eq C (tgt := 27) dX10_common_19 (by decide) (fun _ => ?_) (fun _ => ?_)
    · exact RX.loc (w_X10_common_27 C q5.2) [] rfl
    · refine rx_iload_n C 1 dX10_common_22 rfl rfl ?_
      refine rx_iload_n C 2 dX10_common_23 rfl rfl ?_
      refine rx_icmp_ne C (tgt := 29) dX10_common_24 (by decide) (fun _ => ?_) (fun _ => ?_)
      · exact RX.loc (w_X10_common_27 C q5.2) [] rfl
      · refine rx_aload_n C 0 dX10_common_29 rfl rfl ?_
        refine rx_getC C (k := 4) sx_0 fc_X10 (by decide) 6 rfl lk_X10_53 dX10_common_30 ?_
        refine rx_iload_n C 1 dX10_common_33 rfl rfl ?_
        refine rx_iload_n C 2 dX10_common_34 rfl rfl ?_
        refine rx_callVi C [.int x1, .int x2] [] (m_X2_sharedOunces z.l C.inj x1 x2 q5.2) mv_X2_sharedOunces lk_X10_319 sx_6 rfl rfl rfl (Nat.le_of_ble_eq_true rfl) ⟨Nat.le_of_ble_eq_true rfl, Nat.le_of_ble_eq_true rfl⟩ dX10_common_35 (fun q6 => ?_)
        exact rx_iret C dX10_common_38
theorem m_X10_common (l : Launch) {α : Nat → Nat} {D : va_G} {cA : Nat → ClassId} (hin : inj shX.length α) (x1 : Int32) (x2 : Int32) (σ : St) : CT shX l yX10_common cX10_common 3 (some .int) 4 94 emI α D cA [.ref (α 0), .int x1, .int x2] σ (f_X10_common x1 x2 σ) := ct_of rfl (Nat.le_of_ble_eq_true rfl) hin (fun z _ C => w_X10_common_e C x1 x2 σ)
set_option maxRecDepth 100000 in
set_option maxHeartbeats 4000000 in
theorem w_X10_image_e {α : Nat → Nat} {D : va_G} {cA : Nat → ClassId} {z : Cz} (C : CX shX α D cA z RX10 cX10_image 1 (some .int) 3 68) (σ : St) : RX emI shX α D cA z 1 σ 0 [(0, .ref (α 0))] [] (f_X10_image σ) := by
  unfold f_X10_image
  refine rx_aload_n C 0 dX10_image_0 rfl rfl ?_
  refine rx_getC C (k := 7) sx_0 fc_X10 (by decide) 32 rfl lk_X10_69 dX10_image_1 ?_
  refine rx_aload_n C 0 dX10_image_4 rfl rfl ?_
  refine rx_getC C (k := 4) sx_0 fc_X10 (by decide) 6 rfl lk_X10_53 dX10_image_5 ?_
  refine rx_callVv C [.ref (α 6)] [] (m_X3_write z.l C.inj σ) mv_X3_write lk_X10_322 sx_32 rfl rfl rfl (Nat.le_of_ble_eq_true rfl) ⟨Nat.le_of_ble_eq_true rfl, Nat.le_of_ble_eq_true rfl⟩ dX10_image_8 (fun q2 => ?_)
  refine rx_aload_n C 0 dX10_image_11 rfl rfl ?_
  refine rx_getC C (k := 7) sx_0 fc_X10 (by decide) 32 rfl lk_X10_69 dX10_image_12 ?_
  refine rx_getI C (k := 1) sx_32 fc_X3 (by decide) rfl lk_X10_326 dX10_image_15 ?_
  exact rx_iret C dX10_image_18
theorem m_X10_image (l : Launch) {α : Nat → Nat} {D : va_G} {cA : Nat → ClassId} (hin : inj shX.length α) (σ : St) : CT shX l yX10_image cX10_image 1 (some .int) 3 68 emI α D cA [.ref (α 0)] σ (f_X10_image σ) := ct_of rfl (Nat.le_of_ble_eq_true rfl) hin (fun z _ C => w_X10_image_e C σ)
set_option maxRecDepth 100000 in
set_option maxHeartbeats 4000000 in
theorem w_X10_octet_28 {α : Nat → Nat} {D : va_G} {cA : Nat → ClassId} {z : Cz} (C : CX shX α D cA z RX10 cX10_octet 2 (some .int) 0 0) (s0 : Int32) (σ : St) : RX emI shX α D cA z 2 σ 28 [] [.int s0] (f_X10_octet_28 s0 σ) := by
  unfold f_X10_octet_28
  exact rx_iret C dX10_octet_28
set_option maxRecDepth 100000 in
set_option maxHeartbeats 4000000 in
theorem w_X10_octet_15 {α : Nat → Nat} {D : va_G} {cA : Nat → ClassId} {z : Cz} (C : CX shX α D cA z RX10 cX10_octet 2 (some .int) 0 0) (σ : St) : RX emI shX α D cA z 2 σ 15 [] [] (f_X10_octet_15 σ) := by
  unfold f_X10_octet_15
  refine rx_iconst C dX10_octet_15 ic_m1 ?_
  refine rx_goto C (tgt := 28) dX10_octet_16 (by decide) ?_
  exact RX.loc (w_X10_octet_28 C (-1 : Int32) σ) [] rfl
set_option maxRecDepth 100000 in
set_option maxHeartbeats 4000000 in
theorem w_X10_octet_e {α : Nat → Nat} {D : va_G} {cA : Nat → ClassId} {z : Cz} (C : CX shX α D cA z RX10 cX10_octet 2 (some .int) 0 0) (x1 : Int32) (σ : St) : RX emI shX α D cA z 2 σ 0 [(0, .ref (α 0)), (1, .int x1)] [] (f_X10_octet x1 σ) := by
  unfold f_X10_octet
  refine rx_iload_n C 1 dX10_octet_0 rfl rfl ?_
  refine rx_if_lt C (tgt := 15) dX10_octet_1 (by decide) (fun _ => ?_) (fun _ => ?_)
  · exact RX.loc (w_X10_octet_15 C σ) [] rfl
  · refine rx_iload_n C 1 dX10_octet_4 rfl rfl ?_
    refine rx_aload_n C 0 dX10_octet_5 rfl rfl ?_
    refine rx_getC C (k := 7) sx_0 fc_X10 (by decide) 32 rfl lk_X10_69 dX10_octet_6 ?_
    refine rx_getI C (k := 1) sx_32 fc_X3 (by decide) rfl lk_X10_326 dX10_octet_9 ?_
    refine rx_icmp_lt C (tgt := 19) dX10_octet_12 (by decide) (fun _ => ?_) (fun _ => ?_)
    · refine rx_aload_n C 0 dX10_octet_19 rfl rfl ?_
      refine rx_getC C (k := 7) sx_0 fc_X10 (by decide) 32 rfl lk_X10_69 dX10_octet_20 ?_
      refine rx_getC C (k := 0) sx_32 fc_X3 (by decide) 33 rfl lk_X10_329 dX10_octet_23 ?_
      refine rx_iload_n C 1 dX10_octet_26 rfl rfl ?_
      refine rx_iald C (n := 551) sx_33 dX10_octet_27 (fun _ => ?_)
      exact RX.loc (w_X10_octet_28 C (gI σ 33 (ix x1)) σ) [] rfl
    · exact RX.loc (w_X10_octet_15 C σ) [] rfl
theorem m_X10_octet (l : Launch) {α : Nat → Nat} {D : va_G} {cA : Nat → ClassId} (hin : inj shX.length α) (x1 : Int32) (σ : St) : CT shX l yX10_octet cX10_octet 2 (some .int) 0 0 emI α D cA [.ref (α 0), .int x1] σ (f_X10_octet x1 σ) := ct_of rfl (Nat.le_of_ble_eq_true rfl) hin (fun z _ C => w_X10_octet_e C x1 σ)
set_option maxRecDepth 100000 in
set_option maxHeartbeats 4000000 in
theorem w_X10_on_e {α : Nat → Nat} {D : va_G} {cA : Nat → ClassId} {z : Cz} (C : CX shX α D cA z RX10 cX10_on 2 (some .boolean) 5 123) (σ : St) : RX emI shX α D cA z 2 σ 0 [(0, .ref (α 0))] [] (f_X10_on σ) := by
  unfold f_X10_on
  refine rx_aload_n C 0 dX10_on_0 rfl rfl ?_
  refine rx_getI C (k := 9) sx_0 fc_X10 (by decide) rfl lk_X10_73 dX10_on_1 ?_
  refine rx_lti (fun w7 => ?_)
  refine rx_istore_n C [(1, .int w7), (0, .ref (α 0))] dX10_on_4 rfl (by decide) rfl ?_
  refine rx_aload_n C 1 dX10_on_5 rfl rfl ?_
  refine rx_iconst C dX10_on_6 ic_0 ?_
  refine rx_putI C (k := 9) sx_0 fc_X10 (by decide) rfl lk_X10_73 rfl ⟨rfl, rfl⟩ dX10_on_7 ?_
  refine rx_lts (fun σ8 => ?_)
  refine rx_aload_n C 1 dX10_on_10 rfl rfl ?_
  refine rx_getC C (k := 0) sx_0 fc_X10 (by decide) 1 rfl lk_X10_9 dX10_on_11 ?_
  refine rx_iload_n C 0 dX10_on_14 rfl rfl ?_
  refine rx_aload_n C 1 dX10_on_15 rfl rfl ?_
  refine rx_getC C (k := 4) sx_0 fc_X10 (by decide) 6 rfl lk_X10_53 dX10_on_16 ?_
  refine rx_callSi C [.ref (α 1), .int w7, .ref (α 6)] [] (m_X3_fits z.l C.inj 1 rfl w7 σ8) ms_X3_fits lk_X10_332 rfl rfl (Nat.le_of_ble_eq_true rfl) ⟨Nat.le_of_ble_eq_true rfl, Nat.le_of_ble_eq_true rfl⟩ dX10_on_19 (fun q9 => ?_)
  refine rx_if_ne C (tgt := 32) dX10_on_22 (by decide) (fun _ => ?_) (fun _ => ?_)
  · refine rx_aload_n C 1 dX10_on_25 rfl rfl ?_
    refine rx_iconst C dX10_on_26 ic_0 ?_
    refine rx_iconst C dX10_on_27 ic_5 ?_
    refine rx_callVi C [.int (0 : Int32), .int (5 : Int32)] [] (m_X10_granted z.l C.inj (0 : Int32) (5 : Int32) q9.2) mv_X10_granted lk_X10_91 sx_0 rfl rfl rfl (Nat.le_of_ble_eq_true rfl) ⟨Nat.le_of_ble_eq_true rfl, Nat.le_of_ble_eq_true rfl⟩ dX10_on_28 (fun q10 => ?_)
    exact rx_zret C dX10_on_31
  · refine rx_aload_n C 1 dX10_on_32 rfl rfl ?_
    refine rx_getC C (k := 0) sx_0 fc_X10 (by decide) 1 rfl lk_X10_9 dX10_on_33 ?_
    refine rx_aload_n C 1 dX10_on_36 rfl rfl ?_
    refine rx_getC C (k := 4) sx_0 fc_X10 (by decide) 6 rfl lk_X10_53 dX10_on_37 ?_
    refine rx_callSv C [.ref (α 1), .ref (α 6)] [] (m_X3_restore z.l C.inj 1 rfl q9.2) ms_X3_restore lk_X10_336 rfl rfl (Nat.le_of_ble_eq_true rfl) ⟨Nat.le_of_ble_eq_true rfl, Nat.le_of_ble_eq_true rfl⟩ dX10_on_40 (fun q11 => ?_)
    refine rx_aload_n C 1 dX10_on_43 rfl rfl ?_
    refine rx_getC C (k := 5) sx_0 fc_X10 (by decide) 18 rfl lk_X10_62 dX10_on_44 ?_
    refine rx_callVv C [] [] (m_X1_forget z.l C.inj q11.2) mv_X1_forget lk_X10_112 sx_18 rfl rfl rfl (Nat.le_of_ble_eq_true rfl) ⟨Nat.le_of_ble_eq_true rfl, Nat.le_of_ble_eq_true rfl⟩ dX10_on_47 (fun q12 => ?_)
    refine rx_iconst C dX10_on_50 ic_1 ?_
    exact rx_zretC C dX10_on_51 rfl
theorem m_X10_on (l : Launch) {α : Nat → Nat} {D : va_G} {cA : Nat → ClassId} (hin : inj shX.length α) (σ : St) : CT shX l yX10_on cX10_on 2 (some .boolean) 5 123 emI α D cA [.ref (α 0)] σ (f_X10_on σ) := ct_of rfl (Nat.le_of_ble_eq_true rfl) hin (fun z _ C => w_X10_on_e C σ)
set_option maxRecDepth 100000 in
set_option maxHeartbeats 4000000 in
theorem w_X10_status_20 {α : Nat → Nat} {D : va_G} {cA : Nat → ClassId} {z : Cz} (C : CX shX α D cA z RX10 cX10_status 2 (some .int) 0 0) (s0 : Int32) (σ : St) : RX emI shX α D cA z 2 σ 20 [] [.int s0] (f_X10_status_20 s0 σ) := by
  unfold f_X10_status_20
  exact rx_iret C dX10_status_20
set_option maxRecDepth 100000 in
set_option maxHeartbeats 4000000 in
theorem w_X10_status_10 {α : Nat → Nat} {D : va_G} {cA : Nat → ClassId} {z : Cz} (C : CX shX α D cA z RX10 cX10_status 2 (some .int) 0 0) (σ : St) : RX emI shX α D cA z 2 σ 10 [] [] (f_X10_status_10 σ) := by
  unfold f_X10_status_10
  refine rx_iconst C dX10_status_10 ic_m1 ?_
  refine rx_goto C (tgt := 20) dX10_status_11 (by decide) ?_
  exact RX.loc (w_X10_status_20 C (-1 : Int32) σ) [] rfl
set_option maxRecDepth 100000 in
set_option maxHeartbeats 4000000 in
theorem w_X10_status_e {α : Nat → Nat} {D : va_G} {cA : Nat → ClassId} {z : Cz} (C : CX shX α D cA z RX10 cX10_status 2 (some .int) 0 0) (x1 : Int32) (σ : St) : RX emI shX α D cA z 2 σ 0 [(0, .ref (α 0)), (1, .int x1)] [] (f_X10_status x1 σ) := by
  unfold f_X10_status
  refine rx_iload_n C 1 dX10_status_0 rfl rfl ?_
  refine rx_if_lt C (tgt := 10) dX10_status_1 (by decide) (fun _ => ?_) (fun _ => ?_)
  · exact RX.loc (w_X10_status_10 C σ) [] rfl
  · refine rx_iload_n C 1 dX10_status_4 rfl rfl ?_
    refine rx_bipush C dX10_status_5 bp_6 ?_
    refine rx_icmp_lt C (tgt := 14) dX10_status_7 (by decide) (fun _ => ?_) (fun _ => ?_)
    · refine rx_aload_n C 0 dX10_status_14 rfl rfl ?_
      refine rx_getC C (k := 1) sx_0 fc_X10 (by decide) 2 rfl lk_X10_13 dX10_status_15 ?_
      refine rx_iload_n C 1 dX10_status_18 rfl rfl ?_
      refine rx_iald C (n := 6) sx_2 dX10_status_19 (fun _ => ?_)
      exact RX.loc (w_X10_status_20 C (gI σ 2 (ix x1)) σ) [] rfl
    · exact RX.loc (w_X10_status_10 C σ) [] rfl
theorem m_X10_status (l : Launch) {α : Nat → Nat} {D : va_G} {cA : Nat → ClassId} (hin : inj shX.length α) (x1 : Int32) (σ : St) : CT shX l yX10_status cX10_status 2 (some .int) 0 0 emI α D cA [.ref (α 0), .int x1] σ (f_X10_status x1 σ) := ct_of rfl (Nat.le_of_ble_eq_true rfl) hin (fun z _ C => w_X10_status_e C x1 σ)
