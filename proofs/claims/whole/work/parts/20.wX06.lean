set_option maxRecDepth 100000 in
set_option maxHeartbeats 4000000 in
theorem w_X5_yearNow_e {α : Nat → Nat} {D : va_G} {cA : Nat → ClassId} {z : Cz} (C : CX shX α D cA z RX5 cX5_yearNow 1 (some .boolean) 3 66) (σ : St) : RX emI shX α D cA z 1 σ 0 [(0, .ref (α 5))] [] (f_X5_yearNow σ) := by
  unfold f_X5_yearNow
  refine rx_aload_n C 0 dX5_yearNow_0 rfl rfl ?_
  refine rx_getC C (k := 0) sx_5 fc_X5 (by decide) 3 rfl lk_X5_9 dX5_yearNow_1 ?_
  refine rx_callVv C [] [] (m_X6_skip z.l C.inj σ) mv_X6_skip lk_X5_72 sx_3 rfl rfl rfl (Nat.le_of_ble_eq_true rfl) ⟨Nat.le_of_ble_eq_true rfl, Nat.le_of_ble_eq_true rfl⟩ dX5_yearNow_4 (fun q5 => ?_)
  refine rx_aload_n C 0 dX5_yearNow_7 rfl rfl ?_
  refine rx_iconst C dX5_yearNow_8 ic_0 ?_
  refine rx_bipush C dX5_yearNow_9 bp_99 ?_
  refine rx_callVi C [.int (0 : Int32), .int (99 : Int32)] [] (m_X5_number z.l C.inj (0 : Int32) (99 : Int32) q5.2) mv_X5_number lk_X5_78 sx_5 rfl rfl rfl (Nat.le_of_ble_eq_true rfl) ⟨Nat.le_of_ble_eq_true rfl, Nat.le_of_ble_eq_true rfl⟩ dX5_yearNow_11 (fun q6 => ?_)
  refine rx_if_ne C (tgt := 19) dX5_yearNow_14 (by decide) (fun _ => ?_) (fun _ => ?_)
  · refine rx_iconst C dX5_yearNow_17 ic_0 ?_
    exact rx_zretC C dX5_yearNow_18 rfl
  · refine rx_aload_n C 0 dX5_yearNow_19 rfl rfl ?_
    refine rx_getR C (k := 1) sx_5 fc_X5 (by decide) rfl lk_X5_15 dX5_yearNow_20 ?_
    refine rx_ltr (fun g7 => ?_)
    refine rx_if (fun hg7 => ?_) (fun _ => rx_none)
    refine rx_aload_n C 0 dX5_yearNow_23 rfl rfl ?_
    refine rx_getI C (k := 2) sx_5 fc_X5 (by decide) rfl lk_X5_19 dX5_yearNow_24 ?_
    refine rx_putI C (k := 10) (ld_sh (landB_is hg7)) fc_X4 (by decide) rfl lk_X5_89 rfl ⟨rfl, rfl⟩ dX5_yearNow_27 ?_
    refine rx_lts (fun σ8 => ?_)
    refine rx_iconst C dX5_yearNow_30 ic_1 ?_
    exact rx_zretC C dX5_yearNow_31 rfl
theorem m_X5_yearNow (l : Launch) {α : Nat → Nat} {D : va_G} {cA : Nat → ClassId} (hin : inj shX.length α) (σ : St) : CT shX l yX5_yearNow cX5_yearNow 1 (some .boolean) 3 66 emI α D cA [.ref (α 5)] σ (f_X5_yearNow σ) := ct_of rfl (Nat.le_of_ble_eq_true rfl) hin (fun z _ C => w_X5_yearNow_e C σ)
set_option maxRecDepth 100000 in
set_option maxHeartbeats 4000000 in
theorem w_X5_readLand_210 {α : Nat → Nat} {D : va_G} {cA : Nat → ClassId} {z : Cz} (C : CX shX α D cA z RX5 cX5_readLand 4 (some .int) 174 3997) (r1 : Nat) (hr1 : isLand r1) (x2 : Int32) (σ : St) : RX emI shX α D cA z 4 σ 210 [(0, .ref (α 5)), (2, .int x2)] [] (f_X5_readLand_210 r1 x2 σ) := by
  unfold f_X5_readLand_210
  refine rx_aload_n C 0 dX5_readLand_210 rfl rfl ?_
  refine rx_getR C (k := 1) sx_5 fc_X5 (by decide) rfl lk_X5_15 dX5_readLand_211 ?_
  refine rx_ltr (fun g35 => ?_)
  refine rx_if (fun hg35 => ?_) (fun _ => rx_none)
  refine rx_callVv C [] [] (m_X4_weighTitles z.l C.inj g35 (landB_is hg35) σ) mv_X4_weighTitles lk_X5_69 (ld_sh (landB_is hg35)) rfl rfl rfl (Nat.le_of_ble_eq_true rfl) ⟨Nat.le_of_ble_eq_true rfl, Nat.le_of_ble_eq_true rfl⟩ dX5_readLand_214 (fun q36 => ?_)
  refine rx_iload_n C 1 dX5_readLand_217 rfl rfl ?_
  exact rx_iret C dX5_readLand_218
set_option maxRecDepth 100000 in
set_option maxHeartbeats 4000000 in
theorem w_X5_readLand_202 {α : Nat → Nat} {D : va_G} {cA : Nat → ClassId} {z : Cz} (C : CX shX α D cA z RX5 cX5_readLand 4 (some .int) 174 3997) (r1 : Nat) (hr1 : isLand r1) (σ : St) : RX emI shX α D cA z 4 σ 202 [] [] (f_X5_readLand_202 r1 σ) := by
  unfold f_X5_readLand_202
  refine rx_iconst C dX5_readLand_202 ic_m1 ?_
  exact rx_iret C dX5_readLand_203
set_option maxRecDepth 100000 in
set_option maxHeartbeats 4000000 in
theorem w_X5_readLand_189 {α : Nat → Nat} {D : va_G} {cA : Nat → ClassId} {z : Cz} (C : CX shX α D cA z RX5 cX5_readLand 4 (some .int) 174 3997) (r1 : Nat) (hr1 : isLand r1) (k_14 : Int32 → St → Option (Int32 × St)) (hk_14 : ∀ (x2 : Int32) (σ : St), RX emI shX α D cA z 4 σ 14 [(0, .ref (α 5)), (2, .int x2)] [] (k_14 x2 σ)) (x2 : Int32) (x3 : Int32) (σ : St) : RX emI shX α D cA z 4 σ 189 [(0, .ref (α 5)), (2, .int x2), (3, .int x3)] [] (f_X5_readLand_189 r1 k_14 x2 x3 σ) := by
  unfold f_X5_readLand_189
  refine rx_iload_n C 2 dX5_readLand_189 rfl rfl ?_
  refine rx_if_eq C (tgt := 202) dX5_readLand_190 (by decide) (fun _ => ?_) (fun _ => ?_)
  · exact RX.loc (w_X5_readLand_202 C r1 hr1 σ) [] rfl
  · refine rx_aload_n C 0 dX5_readLand_193 rfl rfl ?_
    refine rx_bipush C dX5_readLand_194 bp_59 ?_
    refine rx_callVi C [.int (59 : Int32)] [] (m_X5_token z.l C.inj (59 : Int32) σ) mv_X5_token lk_X5_66 sx_5 rfl rfl rfl (Nat.le_of_ble_eq_true rfl) ⟨Nat.le_of_ble_eq_true rfl, Nat.le_of_ble_eq_true rfl⟩ dX5_readLand_196 (fun q41 => ?_)
    refine rx_if_ne C (tgt := 204) dX5_readLand_199 (by decide) (fun _ => ?_) (fun _ => ?_)
    · exact RX.loc (w_X5_readLand_202 C r1 hr1 q41.2) [] rfl
    · refine rx_iinc C (k0 := 1) (v := x2 + (1 : Int32)) [(2, .int (x2 + (1 : Int32))), (0, .ref (α 5)), (3, .int x3)] dX5_readLand_204 rfl (congrArg _ ic_1) (by decide) rfl ?_
      refine rx_goto C (tgt := 14) dX5_readLand_207 (by decide) ?_
      exact RX.loc (hk_14 (x2 + (1 : Int32)) q41.2) [1, 0] rfl
set_option maxRecDepth 100000 in
set_option maxHeartbeats 4000000 in
theorem w_X5_readLand_180 {α : Nat → Nat} {D : va_G} {cA : Nat → ClassId} {z : Cz} (C : CX shX α D cA z RX5 cX5_readLand 4 (some .int) 174 3997) (r1 : Nat) (hr1 : isLand r1) (k_14 : Int32 → St → Option (Int32 × St)) (hk_14 : ∀ (x2 : Int32) (σ : St), RX emI shX α D cA z 4 σ 14 [(0, .ref (α 5)), (2, .int x2)] [] (k_14 x2 σ)) (x2 : Int32) (σ : St) : RX emI shX α D cA z 4 σ 180 [(0, .ref (α 5)), (2, .int x2)] [] (f_X5_readLand_180 r1 k_14 x2 σ) := by
  unfold f_X5_readLand_180
  refine rx_aload_n C 0 dX5_readLand_180 rfl rfl ?_
  refine rx_getC C (k := 0) sx_5 fc_X5 (by decide) 3 rfl lk_X5_9 dX5_readLand_181 ?_
  refine rx_iconst C dX5_readLand_184 ic_1 ?_
  refine rx_callVi C [.int (1 : Int32)] [] (m_X6_failHere z.l C.inj (1 : Int32) σ) mv_X6_failHere lk_X5_62 sx_3 rfl rfl rfl (Nat.le_of_ble_eq_true rfl) ⟨Nat.le_of_ble_eq_true rfl, Nat.le_of_ble_eq_true rfl⟩ dX5_readLand_185 (fun q45 => ?_)
  refine rx_istore_n C [(3, .int q45.1), (0, .ref (α 5)), (2, .int x2)] dX5_readLand_188 rfl (by decide) rfl ?_
  exact RX.loc (w_X5_readLand_189 C r1 hr1 k_14 hk_14 x2 q45.1 q45.2) [1, 2, 0] rfl
set_option maxRecDepth 100000 in
set_option maxHeartbeats 4000000 in
theorem w_X5_readLand_14 {α : Nat → Nat} {D : va_G} {cA : Nat → ClassId} {z : Cz} (C : CX shX α D cA z RX5 cX5_readLand 4 (some .int) 174 3997) (r1 : Nat) (hr1 : isLand r1) : ∀ (n : Nat) (x2 : Int32) (σ : St), RX emI shX α D cA z 4 σ 14 [(0, .ref (α 5)), (2, .int x2)] [] (f_X5_readLand_14 r1 n x2 σ) := by
  intro n
  induction n with
  | zero => intros; exact rx_none
  | succ n hk_14 =>
    intro x2 σ
    rw [f_X5_readLand_14.eq_2]
    refine rx_iload_n C 1 dX5_readLand_14 rfl rfl ?_
    refine rx_sipush C dX5_readLand_15 sp_1600 ?_
    refine rx_icmp_gt C (tgt := 210) dX5_readLand_18 (by decide) (fun _ => ?_) (fun _ => ?_)
    · exact RX.loc (w_X5_readLand_210 C r1 hr1 x2 σ) [0, 1] rfl
    · refine rx_aload_n C 0 dX5_readLand_21 rfl rfl ?_
      refine rx_getC C (k := 0) sx_5 fc_X5 (by decide) 3 rfl lk_X5_9 dX5_readLand_22 ?_
      refine rx_callVi C [] [] (m_X6_look z.l C.inj σ) mv_X6_look lk_X5_28 sx_3 rfl rfl rfl (Nat.le_of_ble_eq_true rfl) ⟨Nat.le_of_ble_eq_true rfl, Nat.le_of_ble_eq_true rfl⟩ dX5_readLand_25 (fun q37 => ?_)
      refine rx_sipush C dX5_readLand_28 sp_302 ?_
      refine rx_icmp_eq C (tgt := 210) dX5_readLand_31 (by decide) (fun _ => ?_) (fun _ => ?_)
      · exact RX.loc (w_X5_readLand_210 C r1 hr1 x2 q37.2) [0, 1] rfl
      · refine rx_aload_n C 0 dX5_readLand_34 rfl rfl ?_
        refine rx_getC C (k := 0) sx_5 fc_X5 (by decide) 3 rfl lk_X5_9 dX5_readLand_35 ?_
        refine rx_callVi C [] [] (m_X6_look z.l C.inj q37.2) mv_X6_look lk_X5_28 sx_3 rfl rfl rfl (Nat.le_of_ble_eq_true rfl) ⟨Nat.le_of_ble_eq_true rfl, Nat.le_of_ble_eq_true rfl⟩ dX5_readLand_38 (fun q38 => ?_)
        refine rx_if (fun hs39 => ?_) (fun hs39 => ?_)
        · refine rx_tableIn C (tgt := 108) (400 : Int32) hs39 dX5_readLand_41 (by decide) (by decide) rfl (by decide) ?_
          refine rx_aload_n C 0 dX5_readLand_108 rfl rfl ?_
          refine rx_callVi C [] [] (m_X5_letterOunces z.l C.inj q38.2) mv_X5_letterOunces lk_X5_34 sx_5 rfl rfl rfl (Nat.le_of_ble_eq_true rfl) ⟨Nat.le_of_ble_eq_true rfl, Nat.le_of_ble_eq_true rfl⟩ dX5_readLand_109 (fun q40 => ?_)
          refine rx_istore_n C [(3, .int q40.1), (0, .ref (α 5)), (2, .int x2)] dX5_readLand_112 rfl (by decide) rfl ?_
          refine rx_goto C (tgt := 189) dX5_readLand_113 (by decide) ?_
          exact RX.loc (w_X5_readLand_189 C r1 hr1 (f_X5_readLand_14 r1 n) hk_14 x2 q40.1 q40.2) [1, 2, 0] rfl
        refine rx_if (fun hs42 => ?_) (fun hs42 => ?_)
        · refine rx_tableIn C (tgt := 116) (401 : Int32) hs42 dX5_readLand_41 (by decide) (by decide) rfl (by decide) ?_
          refine rx_aload_n C 0 dX5_readLand_116 rfl rfl ?_
          refine rx_callVi C [] [] (m_X5_newPerson z.l C.inj q38.2) mv_X5_newPerson lk_X5_38 sx_5 rfl rfl rfl (Nat.le_of_ble_eq_true rfl) ⟨Nat.le_of_ble_eq_true rfl, Nat.le_of_ble_eq_true rfl⟩ dX5_readLand_117 (fun q43 => ?_)
          refine rx_istore_n C [(3, .int q43.1), (0, .ref (α 5)), (2, .int x2)] dX5_readLand_120 rfl (by decide) rfl ?_
          refine rx_goto C (tgt := 189) dX5_readLand_121 (by decide) ?_
          exact RX.loc (w_X5_readLand_189 C r1 hr1 (f_X5_readLand_14 r1 n) hk_14 x2 q43.1 q43.2) [1, 2, 0] rfl
        refine rx_if (fun hs44 => ?_) (fun hs44 => ?_)
        · refine rx_tableIn C (tgt := 180) (402 : Int32) hs44 dX5_readLand_41 (by decide) (by decide) rfl (by decide) ?_
          exact RX.loc (w_X5_readLand_180 C r1 hr1 (f_X5_readLand_14 r1 n) hk_14 x2 q38.2) [0, 1] rfl
        refine rx_if (fun hs46 => ?_) (fun hs46 => ?_)
        · refine rx_tableIn C (tgt := 180) (403 : Int32) hs46 dX5_readLand_41 (by decide) (by decide) rfl (by decide) ?_
          exact RX.loc (w_X5_readLand_180 C r1 hr1 (f_X5_readLand_14 r1 n) hk_14 x2 q38.2) [0, 1] rfl
        refine rx_if (fun hs47 => ?_) (fun hs47 => ?_)
        · refine rx_tableIn C (tgt := 180) (404 : Int32) hs47 dX5_readLand_41 (by decide) (by decide) rfl (by decide) ?_
          exact RX.loc (w_X5_readLand_180 C r1 hr1 (f_X5_readLand_14 r1 n) hk_14 x2 q38.2) [0, 1] rfl
        refine rx_if (fun hs48 => ?_) (fun hs48 => ?_)
        · refine rx_tableIn C (tgt := 124) (405 : Int32) hs48 dX5_readLand_41 (by decide) (by decide) rfl (by decide) ?_
          refine rx_aload_n C 0 dX5_readLand_124 rfl rfl ?_
          refine rx_callVi C [] [] (m_X5_newTitle z.l C.inj q38.2) mv_X5_newTitle lk_X5_41 sx_5 rfl rfl rfl (Nat.le_of_ble_eq_true rfl) ⟨Nat.le_of_ble_eq_true rfl, Nat.le_of_ble_eq_true rfl⟩ dX5_readLand_125 (fun q49 => ?_)
          refine rx_istore_n C [(3, .int q49.1), (0, .ref (α 5)), (2, .int x2)] dX5_readLand_128 rfl (by decide) rfl ?_
          refine rx_goto C (tgt := 189) dX5_readLand_129 (by decide) ?_
          exact RX.loc (w_X5_readLand_189 C r1 hr1 (f_X5_readLand_14 r1 n) hk_14 x2 q49.1 q49.2) [1, 2, 0] rfl
        refine rx_if (fun hs50 => ?_) (fun hs50 => ?_)
        · refine rx_tableIn C (tgt := 180) (406 : Int32) hs50 dX5_readLand_41 (by decide) (by decide) rfl (by decide) ?_
          exact RX.loc (w_X5_readLand_180 C r1 hr1 (f_X5_readLand_14 r1 n) hk_14 x2 q38.2) [0, 1] rfl
        refine rx_if (fun hs51 => ?_) (fun hs51 => ?_)
        · refine rx_tableIn C (tgt := 132) (407 : Int32) hs51 dX5_readLand_41 (by decide) (by decide) rfl (by decide) ?_
          refine rx_aload_n C 0 dX5_readLand_132 rfl rfl ?_
          refine rx_callVi C [] [] (m_X5_titleHad z.l C.inj q38.2) mv_X5_titleHad lk_X5_44 sx_5 rfl rfl rfl (Nat.le_of_ble_eq_true rfl) ⟨Nat.le_of_ble_eq_true rfl, Nat.le_of_ble_eq_true rfl⟩ dX5_readLand_133 (fun q52 => ?_)
          refine rx_istore_n C [(3, .int q52.1), (0, .ref (α 5)), (2, .int x2)] dX5_readLand_136 rfl (by decide) rfl ?_
          refine rx_goto C (tgt := 189) dX5_readLand_137 (by decide) ?_
          exact RX.loc (w_X5_readLand_189 C r1 hr1 (f_X5_readLand_14 r1 n) hk_14 x2 q52.1 q52.2) [1, 2, 0] rfl
        refine rx_if (fun hs53 => ?_) (fun hs53 => ?_)
        · refine rx_tableIn C (tgt := 140) (408 : Int32) hs53 dX5_readLand_41 (by decide) (by decide) rfl (by decide) ?_
          refine rx_aload_n C 0 dX5_readLand_140 rfl rfl ?_
          refine rx_callVi C [] [] (m_X5_heapLetters z.l C.inj q38.2) mv_X5_heapLetters lk_X5_47 sx_5 rfl rfl rfl (Nat.le_of_ble_eq_true rfl) ⟨Nat.le_of_ble_eq_true rfl, Nat.le_of_ble_eq_true rfl⟩ dX5_readLand_141 (fun q54 => ?_)
          refine rx_istore_n C [(3, .int q54.1), (0, .ref (α 5)), (2, .int x2)] dX5_readLand_144 rfl (by decide) rfl ?_
          refine rx_goto C (tgt := 189) dX5_readLand_145 (by decide) ?_
          exact RX.loc (w_X5_readLand_189 C r1 hr1 (f_X5_readLand_14 r1 n) hk_14 x2 q54.1 q54.2) [1, 2, 0] rfl
        refine rx_if (fun hs55 => ?_) (fun hs55 => ?_)
        · refine rx_tableIn C (tgt := 148) (409 : Int32) hs55 dX5_readLand_41 (by decide) (by decide) rfl (by decide) ?_
          refine rx_aload_n C 0 dX5_readLand_148 rfl rfl ?_
          refine rx_callVi C [] [] (m_X5_newAge z.l C.inj q38.2) mv_X5_newAge lk_X5_50 sx_5 rfl rfl rfl (Nat.le_of_ble_eq_true rfl) ⟨Nat.le_of_ble_eq_true rfl, Nat.le_of_ble_eq_true rfl⟩ dX5_readLand_149 (fun q56 => ?_)
          refine rx_istore_n C [(3, .int q56.1), (0, .ref (α 5)), (2, .int x2)] dX5_readLand_152 rfl (by decide) rfl ?_
          refine rx_goto C (tgt := 189) dX5_readLand_153 (by decide) ?_
          exact RX.loc (w_X5_readLand_189 C r1 hr1 (f_X5_readLand_14 r1 n) hk_14 x2 q56.1 q56.2) [1, 2, 0] rfl
        refine rx_if (fun hs57 => ?_) (fun hs57 => ?_)
        · refine rx_tableIn C (tgt := 156) (410 : Int32) hs57 dX5_readLand_41 (by decide) (by decide) rfl (by decide) ?_
          refine rx_aload_n C 0 dX5_readLand_156 rfl rfl ?_
          refine rx_callVi C [] [] (m_X5_newLaw z.l C.inj q38.2) mv_X5_newLaw lk_X5_53 sx_5 rfl rfl rfl (Nat.le_of_ble_eq_true rfl) ⟨Nat.le_of_ble_eq_true rfl, Nat.le_of_ble_eq_true rfl⟩ dX5_readLand_157 (fun q58 => ?_)
          refine rx_istore_n C [(3, .int q58.1), (0, .ref (α 5)), (2, .int x2)] dX5_readLand_160 rfl (by decide) rfl ?_
          refine rx_goto C (tgt := 189) dX5_readLand_161 (by decide) ?_
          exact RX.loc (w_X5_readLand_189 C r1 hr1 (f_X5_readLand_14 r1 n) hk_14 x2 q58.1 q58.2) [1, 2, 0] rfl
        refine rx_if (fun hs59 => ?_) (fun hs59 => ?_)
        · refine rx_tableIn C (tgt := 164) (411 : Int32) hs59 dX5_readLand_41 (by decide) (by decide) rfl (by decide) ?_
          refine rx_aload_n C 0 dX5_readLand_164 rfl rfl ?_
          refine rx_callVi C [] [] (m_X5_newBridge z.l C.inj q38.2) mv_X5_newBridge lk_X5_56 sx_5 rfl rfl rfl (Nat.le_of_ble_eq_true rfl) ⟨Nat.le_of_ble_eq_true rfl, Nat.le_of_ble_eq_true rfl⟩ dX5_readLand_165 (fun q60 => ?_)
          refine rx_istore_n C [(3, .int q60.1), (0, .ref (α 5)), (2, .int x2)] dX5_readLand_168 rfl (by decide) rfl ?_
          refine rx_goto C (tgt := 189) dX5_readLand_169 (by decide) ?_
          exact RX.loc (w_X5_readLand_189 C r1 hr1 (f_X5_readLand_14 r1 n) hk_14 x2 q60.1 q60.2) [1, 2, 0] rfl
        refine rx_if (fun hs61 => ?_) (fun hs61 => ?_)
        · refine rx_tableIn C (tgt := 172) (412 : Int32) hs61 dX5_readLand_41 (by decide) (by decide) rfl (by decide) ?_
          refine rx_aload_n C 0 dX5_readLand_172 rfl rfl ?_
          refine rx_callVi C [] [] (m_X5_yearNow z.l C.inj q38.2) mv_X5_yearNow lk_X5_59 sx_5 rfl rfl rfl (Nat.le_of_ble_eq_true rfl) ⟨Nat.le_of_ble_eq_true rfl, Nat.le_of_ble_eq_true rfl⟩ dX5_readLand_173 (fun q62 => ?_)
          refine rx_istore_n C [(3, .int q62.1), (0, .ref (α 5)), (2, .int x2)] dX5_readLand_176 rfl (by decide) rfl ?_
          refine rx_goto C (tgt := 189) dX5_readLand_177 (by decide) ?_
          exact RX.loc (w_X5_readLand_189 C r1 hr1 (f_X5_readLand_14 r1 n) hk_14 x2 q62.1 q62.2) [1, 2, 0] rfl
        refine rx_tableOut C (tgt := 180) dX5_readLand_41 (by have := lv_neT (a := 400) hs39 (by decide); have := lv_neT (a := 401) hs42 (by decide); have := lv_neT (a := 402) hs44 (by decide); have := lv_neT (a := 403) hs46 (by decide); have := lv_neT (a := 404) hs47 (by decide); have := lv_neT (a := 405) hs48 (by decide); have := lv_neT (a := 406) hs50 (by decide); have := lv_neT (a := 407) hs51 (by decide); have := lv_neT (a := 408) hs53 (by decide); have := lv_neT (a := 409) hs55 (by decide); have := lv_neT (a := 410) hs57 (by decide); have := lv_neT (a := 411) hs59 (by decide); have := lv_neT (a := 412) hs61 (by decide); omega) (by decide) ?_
        exact RX.loc (w_X5_readLand_180 C r1 hr1 (f_X5_readLand_14 r1 n) hk_14 x2 q38.2) [0, 1] rfl
set_option maxRecDepth 100000 in
set_option maxHeartbeats 4000000 in
theorem w_X5_readLand_e {α : Nat → Nat} {D : va_G} {cA : Nat → ClassId} {z : Cz} (C : CX shX α D cA z RX5 cX5_readLand 4 (some .int) 174 3997) (r1 : Nat) (hr1 : isLand r1) (σ : St) : RX emI shX α D cA z 4 σ 0 [(0, .ref (α 5)), (1, .ref (α r1))] [] (f_X5_readLand r1 σ) := by
  unfold f_X5_readLand
  refine rx_aload_n C 0 dX5_readLand_0 rfl rfl ?_
  refine rx_aload_n C 1 dX5_readLand_1 rfl rfl ?_
  refine rx_putR C (k := 1) sx_5 fc_X5 (by decide) rfl lk_X5_15 rfl ⟨rfl, rfl⟩ dX5_readLand_2 ?_
  refine rx_lts (fun σ32 => ?_)
  refine rx_aload_n C 0 dX5_readLand_5 rfl rfl ?_
  refine rx_getR C (k := 1) sx_5 fc_X5 (by decide) rfl lk_X5_15 dX5_readLand_6 ?_
  refine rx_ltr (fun g33 => ?_)
  refine rx_if (fun hg33 => ?_) (fun _ => rx_none)
  refine rx_callVv C [] [] (m_X4_clear z.l C.inj g33 (landB_is hg33) σ32) mv_X4_clear lk_X5_23 (ld_sh (landB_is hg33)) rfl rfl rfl (Nat.le_of_ble_eq_true rfl) ⟨Nat.le_of_ble_eq_true rfl, Nat.le_of_ble_eq_true rfl⟩ dX5_readLand_9 (fun q34 => ?_)
  refine rx_iconst C dX5_readLand_12 ic_0 ?_
  refine rx_istore_n C [(2, .int (0 : Int32)), (0, .ref (α 5)), (1, .ref (α r1))] dX5_readLand_13 rfl (by decide) rfl ?_
  exact RX.loc (w_X5_readLand_14 C r1 hr1 FU (0 : Int32) q34.2) [1, 0] rfl
theorem m_X5_readLand (l : Launch) {α : Nat → Nat} {D : va_G} {cA : Nat → ClassId} (hin : inj shX.length α) (r1 : Nat) (hr1 : isLand r1) (σ : St) : CT shX l yX5_readLand cX5_readLand 4 (some .int) 174 3997 emI α D cA [.ref (α 5), .ref (α r1)] σ (f_X5_readLand r1 σ) := ct_of rfl (Nat.le_of_ble_eq_true rfl) hin (fun z _ C => w_X5_readLand_e C r1 hr1 σ)
set_option maxRecDepth 100000 in
set_option maxHeartbeats 4000000 in
theorem w_X6_start_e {α : Nat → Nat} {D : va_G} {cA : Nat → ClassId} {z : Cz} (C : CX shX α D cA z RX6 cX6_start 2 none 1 21) (x1 : Int32) (σ : St) : RX emV shX α D cA z 2 σ 0 [(0, .ref (α 3)), (1, .int x1)] [] (f_X6_start x1 σ) := by
  unfold f_X6_start
  refine rx_aload_n C 0 dX6_start_0 rfl rfl ?_
  refine rx_iconst C dX6_start_1 ic_0 ?_
  refine rx_iload_n C 1 dX6_start_2 rfl rfl ?_
  refine rx_aload_n C 0 dX6_start_3 rfl rfl ?_
  refine rx_getC C (k := 0) sx_3 fc_X6 (by decide) 1 rfl lk_X6_11 dX6_start_4 ?_
  refine rx_alen C (n := 1600) sx_1 rfl dX6_start_7 ?_
  refine rx_callSi C [.int x1, .int (Int32.ofNat 1600)] [.int (0 : Int32), .ref (α 3)] (m_J9_min_7cf53 z.l C.inj x1 (Int32.ofNat 1600) σ) ms_J9_min_7cf53 lk_X6_33 rfl rfl (Nat.le_of_ble_eq_true rfl) ⟨Nat.le_of_ble_eq_true rfl, Nat.le_of_ble_eq_true rfl⟩ dX6_start_8 (fun q9 => ?_)
  refine rx_callSi C [.int (0 : Int32), .int q9.1] [.ref (α 3)] (m_J9_max_7cf53 z.l C.inj (0 : Int32) q9.1 q9.2) ms_J9_max_7cf53 lk_X6_39 rfl rfl (Nat.le_of_ble_eq_true rfl) ⟨Nat.le_of_ble_eq_true rfl, Nat.le_of_ble_eq_true rfl⟩ dX6_start_11 (fun q10 => ?_)
  refine rx_putI C (k := 2) sx_3 fc_X6 (by decide) rfl lk_X6_42 rfl ⟨rfl, rfl⟩ dX6_start_14 ?_
  refine rx_lts (fun σ11 => ?_)
  refine rx_aload_n C 0 dX6_start_17 rfl rfl ?_
  refine rx_iconst C dX6_start_18 ic_0 ?_
  refine rx_putI C (k := 3) sx_3 fc_X6 (by decide) rfl lk_X6_45 rfl ⟨rfl, rfl⟩ dX6_start_19 ?_
  refine rx_lts (fun σ12 => ?_)
  refine rx_aload_n C 0 dX6_start_22 rfl rfl ?_
  refine rx_iconst C dX6_start_23 ic_0 ?_
  refine rx_putI C (k := 4) sx_3 fc_X6 (by decide) rfl lk_X6_48 rfl ⟨rfl, rfl⟩ dX6_start_24 ?_
  refine rx_lts (fun σ13 => ?_)
  refine rx_aload_n C 0 dX6_start_27 rfl rfl ?_
  refine rx_iconst C dX6_start_28 ic_0 ?_
  refine rx_putI C (k := 7) sx_3 fc_X6 (by decide) rfl lk_X6_51 rfl ⟨rfl, rfl⟩ dX6_start_29 ?_
  refine rx_lts (fun σ14 => ?_)
  refine rx_aload_n C 0 dX6_start_32 rfl rfl ?_
  refine rx_iconst C dX6_start_33 ic_0 ?_
  refine rx_putI C (k := 8) sx_3 fc_X6 (by decide) rfl lk_X6_55 rfl ⟨rfl, rfl⟩ dX6_start_34 ?_
  refine rx_lts (fun σ15 => ?_)
  refine rx_aload_n C 0 dX6_start_37 rfl rfl ?_
  refine rx_iconst C dX6_start_38 ic_m1 ?_
  refine rx_putI C (k := 9) sx_3 fc_X6 (by decide) rfl lk_X6_58 rfl ⟨rfl, rfl⟩ dX6_start_39 ?_
  refine rx_lts (fun σ16 => ?_)
  exact rx_vret C dX6_start_42
theorem m_X6_start (l : Launch) {α : Nat → Nat} {D : va_G} {cA : Nat → ClassId} (hin : inj shX.length α) (x1 : Int32) (σ : St) : CT shX l yX6_start cX6_start 2 none 1 21 emV α D cA [.ref (α 3), .int x1] σ (f_X6_start x1 σ) := ct_of rfl (Nat.le_of_ble_eq_true rfl) hin (fun z _ C => w_X6_start_e C x1 σ)
set_option maxRecDepth 100000 in
set_option maxHeartbeats 4000000 in
theorem w_X9_collect_31 {d : Nat} {α : Nat → Nat} {D : va_G} {cA : Nat → ClassId} {z : Cz} (C : CX shX α D cA z RX9 cX9_collect 5 none (1 * d + 1) (24 * d + 24)) (rec : Int32 → Int32 → Int32 → St → Option (Unit × St)) (hrec : ∀ (x1 : Int32) (x2 : Int32) (x3 : Int32) (σ : St), CT shX z.l yX9_collect cX9_collect 5 none (1 * d + 0) (24 * d + 0) emV α D cA [.ref (α 24), .int x1, .int x2, .int x3] σ (rec x1 x2 x3 σ)) (s1 : Int32) (σ : St) : RX emV shX α D cA z 5 σ 31 [] [.int s1, .ref (α 24)] (f_X9_collect_31 rec s1 σ) := by
  unfold f_X9_collect_31
  refine rx_putI C (k := 12) sx_24 fc_X9 (by decide) rfl lk_X9_89 rfl ⟨rfl, rfl⟩ dX9_collect_31 ?_
  refine rx_lts (fun σ7 => ?_)
  exact rx_vret C dX9_collect_34
set_option maxRecDepth 100000 in
set_option maxHeartbeats 4000000 in
theorem w_X9_collect_59 {d : Nat} {α : Nat → Nat} {D : va_G} {cA : Nat → ClassId} {z : Cz} (C : CX shX α D cA z RX9 cX9_collect 5 none (1 * d + 1) (24 * d + 24)) (rec : Int32 → Int32 → Int32 → St → Option (Unit × St)) (hrec : ∀ (x1 : Int32) (x2 : Int32) (x3 : Int32) (σ : St), CT shX z.l yX9_collect cX9_collect 5 none (1 * d + 0) (24 * d + 0) emV α D cA [.ref (α 24), .int x1, .int x2, .int x3] σ (rec x1 x2 x3 σ)) (σ : St) : RX emV shX α D cA z 5 σ 59 [] [] (f_X9_collect_59 rec σ) := by
  unfold f_X9_collect_59
  exact rx_vret C dX9_collect_59
set_option maxRecDepth 100000 in
set_option maxHeartbeats 4000000 in
theorem w_X9_collect_e {d : Nat} {α : Nat → Nat} {D : va_G} {cA : Nat → ClassId} {z : Cz} (C : CX shX α D cA z RX9 cX9_collect 5 none (1 * d + 1) (24 * d + 24)) (rec : Int32 → Int32 → Int32 → St → Option (Unit × St)) (hrec : ∀ (x1 : Int32) (x2 : Int32) (x3 : Int32) (σ : St), CT shX z.l yX9_collect cX9_collect 5 none (1 * d + 0) (24 * d + 0) emV α D cA [.ref (α 24), .int x1, .int x2, .int x3] σ (rec x1 x2 x3 σ)) (x1 : Int32) (x2 : Int32) (x3 : Int32) (σ : St) : RX emV shX α D cA z 5 σ 0 [(0, .ref (α 24)), (1, .int x1), (2, .int x2), (3, .int x3)] [] (fb_X9_collect rec x1 x2 x3 σ) := by
  unfold fb_X9_collect
  refine rx_iload_n C 2 dX9_collect_0 rfl rfl ?_
  refine rx_if_ne C (tgt := 35) dX9_collect_1 (by decide) (fun _ => ?_) (fun _ => ?_)
  · refine rx_aload_n C 0 dX9_collect_4 rfl rfl ?_
    refine rx_dup C dX9_collect_5 rfl ?_
    refine rx_getI C (k := 11) sx_24 fc_X9 (by decide) rfl lk_X9_86 dX9_collect_6 ?_
    refine rx_iconst C dX9_collect_9 ic_1 ?_
    refine rx_iadd C dX9_collect_10 ?_
    refine rx_putI C (k := 11) sx_24 fc_X9 (by decide) rfl lk_X9_86 rfl ⟨rfl, rfl⟩ dX9_collect_11 ?_
    refine rx_lts (fun σ6 => ?_)
    refine rx_aload_n C 0 dX9_collect_14 rfl rfl ?_
    refine rx_aload_n C 0 dX9_collect_15 rfl rfl ?_
    refine rx_getI C (k := 12) sx_24 fc_X9 (by decide) rfl lk_X9_89 dX9_collect_16 ?_
    refine rx_iconst C dX9_collect_19 ic_m1 ?_
    refine rx_icmp_ne C (tgt := 27) dX9_collect_20 (by decide) (fun _ => ?_) (fun _ => ?_)
    · refine rx_iload_n C 3 dX9_collect_23 rfl rfl ?_
      refine rx_goto C (tgt := 31) dX9_collect_24 (by decide) ?_
      exact RX.loc (w_X9_collect_31 C rec hrec x3 σ6) [] rfl
    · refine rx_aload_n C 0 dX9_collect_27 rfl rfl ?_
      refine rx_getI C (k := 12) sx_24 fc_X9 (by decide) rfl lk_X9_89 dX9_collect_28 ?_
      exact RX.loc (w_X9_collect_31 C rec hrec (gI σ6 24 12) σ6) [] rfl
  · refine rx_iload_n C 1 dX9_collect_35 rfl rfl ?_
    refine rx_if_le C (tgt := 59) dX9_collect_36 (by decide) (fun _ => ?_) (fun _ => ?_)
    · exact RX.loc (w_X9_collect_59 C rec hrec σ) [] rfl
    · refine rx_iload_n C 1 dX9_collect_39 rfl rfl ?_
      refine rx_bipush C dX9_collect_40 bp_16 ?_
      refine rx_icmp_gt C (tgt := 59) dX9_collect_42 (by decide) (fun _ => ?_) (fun _ => ?_)
      · exact RX.loc (w_X9_collect_59 C rec hrec σ) [] rfl
      · refine rx_iload_n C 2 dX9_collect_45 rfl rfl ?_
        refine rx_if_lt C (tgt := 59) dX9_collect_46 (by decide) (fun _ => ?_) (fun _ => ?_)
        · exact RX.loc (w_X9_collect_59 C rec hrec σ) [] rfl
        · refine rx_aload_n C 0 dX9_collect_49 rfl rfl ?_
          refine rx_getC C (k := 4) sx_24 fc_X9 (by decide) 29 rfl lk_X9_24 dX9_collect_50 ?_
          refine rx_iload_n C 1 dX9_collect_53 rfl rfl ?_
          refine rx_iald C (n := 17) sx_29 dX9_collect_54 (fun _ => ?_)
          refine rx_iload_n C 2 dX9_collect_55 rfl rfl ?_
          refine rx_icmp_ge C (tgt := 60) dX9_collect_56 (by decide) (fun _ => ?_) (fun _ => ?_)
          · refine rx_iload_n C 1 dX9_collect_60 rfl rfl ?_
            refine rx_iconst C dX9_collect_61 ic_1 ?_
            refine rx_isub C dX9_collect_62 ?_
            refine rx_lti (fun w8 => ?_)
            refine rx_istore C [(4, .int w8), (0, .ref (α 24)), (1, .int x1), (2, .int x2), (3, .int x3)] dX9_collect_63 (by decide) rfl ?_
            refine rx_aload_n C 1 dX9_collect_65 rfl rfl ?_
            refine rx_iload C 0 dX9_collect_66 rfl ?_
            refine rx_iload_n C 3 dX9_collect_68 rfl rfl ?_
            refine rx_iload_n C 4 dX9_collect_69 rfl rfl ?_
            refine rx_callVv C [.int w8, .int x2, .int x3] [] (hrec w8 x2 x3 σ) mv_X9_collect lk_X9_92 sx_24 rfl rfl rfl (Nat.le_of_ble_eq_true rfl) ⟨by omega, by omega⟩ dX9_collect_70 (fun q9 => ?_)
            refine rx_aload_n C 1 dX9_collect_73 rfl rfl ?_
            refine rx_iload C 0 dX9_collect_74 rfl ?_
            refine rx_iload_n C 3 dX9_collect_76 rfl rfl ?_
            refine rx_aload_n C 1 dX9_collect_77 rfl rfl ?_
            refine rx_getC C (k := 3) sx_24 fc_X9 (by decide) 28 rfl lk_X9_21 dX9_collect_78 ?_
            refine rx_iload C 0 dX9_collect_81 rfl ?_
            refine rx_iald C (n := 16) sx_28 dX9_collect_83 (fun _ => ?_)
            refine rx_isub C dX9_collect_84 ?_
            refine rx_iload_n C 4 dX9_collect_85 rfl rfl ?_
            refine rx_iconst C dX9_collect_86 ic_1 ?_
            refine rx_iload C 0 dX9_collect_87 rfl ?_
            refine rx_ishl C dX9_collect_89 ?_
            refine rx_ior C dX9_collect_90 ?_
            refine rx_callVv C [.int w8, .int (x2 - (gI q9.2 28 (ix w8))), .int (x3 ||| ((1 : Int32) <<< (w8 &&& 31)))] [] (hrec w8 (x2 - (gI q9.2 28 (ix w8))) (x3 ||| ((1 : Int32) <<< (w8 &&& 31))) q9.2) mv_X9_collect lk_X9_92 sx_24 rfl rfl rfl (Nat.le_of_ble_eq_true rfl) ⟨by omega, by omega⟩ dX9_collect_91 (fun q10 => ?_)
            exact rx_vret C dX9_collect_94
          · exact RX.loc (w_X9_collect_59 C rec hrec σ) [] rfl
theorem m_X9_collect (l : Launch) {α : Nat → Nat} {D : va_G} {cA : Nat → ClassId} (hin : inj shX.length α) (d : Nat) : ∀ (x1 : Int32) (x2 : Int32) (x3 : Int32) (σ : St), CT shX l yX9_collect cX9_collect 5 none (1 * d + 0) (24 * d + 0) emV α D cA [.ref (α 24), .int x1, .int x2, .int x3] σ (f_X9_collect d x1 x2 x3 σ) := by
  induction d with
  | zero => intro x1 x2 x3 σ r σ1 e; cases e
  | succ d ih =>
    intro x1 x2 x3 σ
    exact ct_of rfl (Nat.le_of_ble_eq_true rfl) hin (fun z hz C => w_X9_collect_e (d := d) (C.wider (by omega) (by omega)) (f_X9_collect d) (by rw [hz]; exact ih) x1 x2 x3 σ)
set_option maxRecDepth 100000 in
set_option maxHeartbeats 4000000 in
theorem w_X9_seekBullets_27 {α : Nat → Nat} {D : va_G} {cA : Nat → ClassId} {z : Cz} (C : CX shX α D cA z RX9 cX9_seekBullets 6 none 25 600) (r1 : Nat) (hr1 : arI r1) : ∀ (n : Nat) (x3 : Int32) (x4 : Int32) (x5 : Int32) (σ : St), RX emV shX α D cA z 6 σ 27 [(0, .ref (α 24)), (1, .ref (α r1)), (3, .int x3), (4, .int x4), (5, .int x5)] [] (f_X9_seekBullets_27 r1 n x3 x4 x5 σ) := by
  intro n
  induction n with
  | zero => intros; exact rx_none
  | succ n hk_27 =>
    intro x3 x4 x5 σ
    rw [f_X9_seekBullets_27.eq_2]
    refine rx_iload C 4 dX9_seekBullets_27 rfl ?_
    refine rx_iload C 3 dX9_seekBullets_29 rfl ?_
    refine rx_icmp_ge C (tgt := 72) dX9_seekBullets_31 (by decide) (fun _ => ?_) (fun _ => ?_)
    · refine rx_aload_n C 0 dX9_seekBullets_72 rfl rfl ?_
      refine rx_iconst C dX9_seekBullets_73 ic_0 ?_
      refine rx_putI C (k := 11) sx_24 fc_X9 (by decide) rfl lk_X9_86 rfl ⟨rfl, rfl⟩ dX9_seekBullets_74 ?_
      refine rx_lts (fun σ14 => ?_)
      refine rx_aload_n C 0 dX9_seekBullets_77 rfl rfl ?_
      refine rx_iconst C dX9_seekBullets_78 ic_m1 ?_
      refine rx_putI C (k := 12) sx_24 fc_X9 (by decide) rfl lk_X9_89 rfl ⟨rfl, rfl⟩ dX9_seekBullets_79 ?_
      refine rx_lts (fun σ15 => ?_)
      refine rx_aload_n C 0 dX9_seekBullets_82 rfl rfl ?_
      refine rx_iload C 3 dX9_seekBullets_83 rfl ?_
      refine rx_iload_n C 2 dX9_seekBullets_85 rfl rfl ?_
      refine rx_iconst C dX9_seekBullets_86 ic_0 ?_
      refine rx_callVv C [.int x4, .int x3, .int (0 : Int32)] [] (m_X9_collect z.l C.inj 24 x4 x3 (0 : Int32) σ15) mv_X9_collect lk_X9_92 sx_24 rfl rfl rfl (Nat.le_of_ble_eq_true rfl) ⟨Nat.le_of_ble_eq_true rfl, Nat.le_of_ble_eq_true rfl⟩ dX9_seekBullets_87 (fun q16 => ?_)
      exact rx_vret C dX9_seekBullets_90
    · refine rx_aload_n C 0 dX9_seekBullets_34 rfl rfl ?_
      refine rx_getC C (k := 3) sx_24 fc_X9 (by decide) 28 rfl lk_X9_21 dX9_seekBullets_35 ?_
      refine rx_iload C 4 dX9_seekBullets_38 rfl ?_
      refine rx_aload_n C 1 dX9_seekBullets_40 rfl rfl ?_
      refine rx_iload C 4 dX9_seekBullets_41 rfl ?_
      refine rx_iald C (n := (lnX r1)) hr1 dX9_seekBullets_43 (fun _ => ?_)
      refine rx_iast C (n := 16) sx_28 dX9_seekBullets_44 (fun _ => ?_)
      refine rx_lts (fun σ17 => ?_)
      refine rx_aload_n C 0 dX9_seekBullets_45 rfl rfl ?_
      refine rx_getC C (k := 4) sx_24 fc_X9 (by decide) 29 rfl lk_X9_24 dX9_seekBullets_46 ?_
      refine rx_iload C 4 dX9_seekBullets_49 rfl ?_
      refine rx_iconst C dX9_seekBullets_51 ic_1 ?_
      refine rx_iadd C dX9_seekBullets_52 ?_
      refine rx_aload_n C 0 dX9_seekBullets_53 rfl rfl ?_
      refine rx_getC C (k := 4) sx_24 fc_X9 (by decide) 29 rfl lk_X9_24 dX9_seekBullets_54 ?_
      refine rx_iload C 4 dX9_seekBullets_57 rfl ?_
      refine rx_iald C (n := 17) sx_29 dX9_seekBullets_59 (fun _ => ?_)
      refine rx_aload_n C 1 dX9_seekBullets_60 rfl rfl ?_
      refine rx_iload C 4 dX9_seekBullets_61 rfl ?_
      refine rx_iald C (n := (lnX r1)) hr1 dX9_seekBullets_63 (fun _ => ?_)
      refine rx_iadd C dX9_seekBullets_64 ?_
      refine rx_iast C (n := 17) sx_29 dX9_seekBullets_65 (fun _ => ?_)
      refine rx_lts (fun σ18 => ?_)
      refine rx_iinc C (k0 := 4) (v := x5 + (1 : Int32)) [(5, .int (x5 + (1 : Int32))), (0, .ref (α 24)), (1, .ref (α r1)), (3, .int x3), (4, .int x4)] dX9_seekBullets_66 rfl (congrArg _ ic_1) (by decide) rfl ?_
      refine rx_goto C (tgt := 27) dX9_seekBullets_69 (by decide) ?_
      exact RX.loc (hk_27 x3 x4 (x5 + (1 : Int32)) σ18) [1, 2, 3, 4, 0] rfl
set_option maxRecDepth 100000 in
set_option maxHeartbeats 4000000 in
theorem w_X9_seekBullets_e {α : Nat → Nat} {D : va_G} {cA : Nat → ClassId} {z : Cz} (C : CX shX α D cA z RX9 cX9_seekBullets 6 none 25 600) (r1 : Nat) (hr1 : arI r1) (x2 : Int32) (x3 : Int32) (σ : St) : RX emV shX α D cA z 6 σ 0 [(0, .ref (α 24)), (1, .ref (α r1)), (2, .int x2), (3, .int x3)] [] (f_X9_seekBullets r1 x2 x3 σ) := by
  unfold f_X9_seekBullets
  refine rx_iconst C dX9_seekBullets_0 ic_0 ?_
  refine rx_bipush C dX9_seekBullets_1 bp_16 ?_
  refine rx_iload_n C 2 dX9_seekBullets_3 rfl rfl ?_
  refine rx_aload_n C 1 dX9_seekBullets_4 rfl rfl ?_
  refine rx_alen C (n := (lnX r1)) hr1 rfl dX9_seekBullets_5 ?_
  refine rx_callSi C [.int x2, .int (Int32.ofNat (lnX r1))] [.int (16 : Int32), .int (0 : Int32)] (m_J9_min_7cf53 z.l C.inj x2 (Int32.ofNat (lnX r1)) σ) ms_J9_min_7cf53 lk_X9_48 rfl rfl (Nat.le_of_ble_eq_true rfl) ⟨Nat.le_of_ble_eq_true rfl, Nat.le_of_ble_eq_true rfl⟩ dX9_seekBullets_6 (fun q10 => ?_)
  refine rx_callSi C [.int (16 : Int32), .int q10.1] [.int (0 : Int32)] (m_J9_min_7cf53 z.l C.inj (16 : Int32) q10.1 q10.2) ms_J9_min_7cf53 lk_X9_48 rfl rfl (Nat.le_of_ble_eq_true rfl) ⟨Nat.le_of_ble_eq_true rfl, Nat.le_of_ble_eq_true rfl⟩ dX9_seekBullets_9 (fun q11 => ?_)
  refine rx_callSi C [.int (0 : Int32), .int q11.1] [] (m_J9_max_7cf53 z.l C.inj (0 : Int32) q11.1 q11.2) ms_J9_max_7cf53 lk_X9_83 rfl rfl (Nat.le_of_ble_eq_true rfl) ⟨Nat.le_of_ble_eq_true rfl, Nat.le_of_ble_eq_true rfl⟩ dX9_seekBullets_12 (fun q12 => ?_)
  refine rx_istore C [(4, .int q12.1), (0, .ref (α 24)), (1, .ref (α r1)), (2, .int x2), (3, .int x3)] dX9_seekBullets_15 (by decide) rfl ?_
  refine rx_aload_n C 1 dX9_seekBullets_17 rfl rfl ?_
  refine rx_getC C (k := 4) sx_24 fc_X9 (by decide) 29 rfl lk_X9_24 dX9_seekBullets_18 ?_
  refine rx_iconst C dX9_seekBullets_21 ic_0 ?_
  refine rx_iconst C dX9_seekBullets_22 ic_0 ?_
  refine rx_iast C (n := 17) sx_29 dX9_seekBullets_23 (fun _ => ?_)
  refine rx_lts (fun σ13 => ?_)
  refine rx_iconst C dX9_seekBullets_24 ic_0 ?_
  refine rx_istore C [(5, .int (0 : Int32)), (4, .int q12.1), (0, .ref (α 24)), (1, .ref (α r1)), (2, .int x2), (3, .int x3)] dX9_seekBullets_25 (by decide) rfl ?_
  exact RX.loc (w_X9_seekBullets_27 C r1 hr1 FU x3 q12.1 (0 : Int32) σ13) [2, 3, 5, 1, 0] rfl
theorem m_X9_seekBullets (l : Launch) {α : Nat → Nat} {D : va_G} {cA : Nat → ClassId} (hin : inj shX.length α) (r1 : Nat) (hr1 : arI r1) (x2 : Int32) (x3 : Int32) (σ : St) : CT shX l yX9_seekBullets cX9_seekBullets 6 none 25 600 emV α D cA [.ref (α 24), .ref (α r1), .int x2, .int x3] σ (f_X9_seekBullets r1 x2 x3 σ) := ct_of rfl (Nat.le_of_ble_eq_true rfl) hin (fun z _ C => w_X9_seekBullets_e C r1 hr1 x2 x3 σ)
set_option maxRecDepth 100000 in
set_option maxHeartbeats 4000000 in
theorem w_X9_place_18 {d : Nat} {α : Nat → Nat} {D : va_G} {cA : Nat → ClassId} {z : Cz} (C : CX shX α D cA z RX9 cX9_place 4 none (1 * d + 2) (23 * d + 44)) (rec : Int32 → Int32 → St → Option (Unit × St)) (hrec : ∀ (x1 : Int32) (x2 : Int32) (σ : St), CT shX z.l yX9_place cX9_place 4 none (1 * d + 1) (23 * d + 21) emV α D cA [.ref (α 24), .int x1, .int x2] σ (rec x1 x2 σ)) (x2 : Int32) (σ : St) : RX emV shX α D cA z 4 σ 18 [(0, .ref (α 24)), (2, .int x2)] [] (f_X9_place_18 rec x2 σ) := by
  unfold f_X9_place_18
  refine rx_aload_n C 0 dX9_place_18 rfl rfl ?_
  refine rx_aload_n C 0 dX9_place_19 rfl rfl ?_
  refine rx_getI C (k := 14) sx_24 fc_X9 (by decide) rfl lk_X9_104 dX9_place_20 ?_
  refine rx_iload_n C 1 dX9_place_23 rfl rfl ?_
  refine rx_callSi C [.int (gI σ 24 14), .int x2] [.ref (α 24)] (m_J9_min_7cf53 z.l C.inj (gI σ 24 14) x2 σ) ms_J9_min_7cf53 lk_X9_48 rfl rfl (Nat.le_of_ble_eq_true rfl) ⟨by omega, by omega⟩ dX9_place_24 (fun q8 => ?_)
  refine rx_putI C (k := 14) sx_24 fc_X9 (by decide) rfl lk_X9_104 rfl ⟨rfl, rfl⟩ dX9_place_27 ?_
  refine rx_lts (fun σ9 => ?_)
  exact rx_vret C dX9_place_30
set_option maxRecDepth 100000 in
set_option maxHeartbeats 4000000 in
theorem w_X9_place_146 {d : Nat} {α : Nat → Nat} {D : va_G} {cA : Nat → ClassId} {z : Cz} (C : CX shX α D cA z RX9 cX9_place 4 none (1 * d + 2) (23 * d + 44)) (rec : Int32 → Int32 → St → Option (Unit × St)) (hrec : ∀ (x1 : Int32) (x2 : Int32) (σ : St), CT shX z.l yX9_place cX9_place 4 none (1 * d + 1) (23 * d + 21) emV α D cA [.ref (α 24), .int x1, .int x2] σ (rec x1 x2 σ)) (σ : St) : RX emV shX α D cA z 4 σ 146 [] [] (f_X9_place_146 rec σ) := by
  unfold f_X9_place_146
  exact rx_vret C dX9_place_146
set_option maxRecDepth 100000 in
set_option maxHeartbeats 4000000 in
theorem w_X9_place_108 {d : Nat} {α : Nat → Nat} {D : va_G} {cA : Nat → ClassId} {z : Cz} (C : CX shX α D cA z RX9 cX9_place 4 none (1 * d + 2) (23 * d + 44)) (rec : Int32 → Int32 → St → Option (Unit × St)) (hrec : ∀ (x1 : Int32) (x2 : Int32) (σ : St), CT shX z.l yX9_place cX9_place 4 none (1 * d + 1) (23 * d + 21) emV α D cA [.ref (α 24), .int x1, .int x2] σ (rec x1 x2 σ)) (x1 : Int32) (x2 : Int32) (σ : St) : RX emV shX α D cA z 4 σ 108 [(0, .ref (α 24)), (1, .int x1), (2, .int x2)] [] (f_X9_place_108 rec x1 x2 σ) := by
  unfold f_X9_place_108
  refine rx_iload_n C 2 dX9_place_108 rfl rfl ?_
  refine rx_iconst C dX9_place_109 ic_1 ?_
  refine rx_iadd C dX9_place_110 ?_
  refine rx_aload_n C 0 dX9_place_111 rfl rfl ?_
  refine rx_getI C (k := 14) sx_24 fc_X9 (by decide) rfl lk_X9_104 dX9_place_112 ?_
  refine rx_icmp_ge C (tgt := 146) dX9_place_115 (by decide) (fun _ => ?_) (fun _ => ?_)
  · exact RX.loc (w_X9_place_146 C rec hrec σ) [] rfl
  · refine rx_iload_n C 2 dX9_place_118 rfl rfl ?_
    refine rx_bipush C dX9_place_119 bp_8 ?_
    refine rx_icmp_ge C (tgt := 146) dX9_place_121 (by decide) (fun _ => ?_) (fun _ => ?_)
    · exact RX.loc (w_X9_place_146 C rec hrec σ) [] rfl
    · refine rx_aload_n C 0 dX9_place_124 rfl rfl ?_
      refine rx_getC C (k := 6) sx_24 fc_X9 (by decide) 31 rfl lk_X9_30 dX9_place_125 ?_
      refine rx_iload_n C 2 dX9_place_128 rfl rfl ?_
      refine rx_aload_n C 0 dX9_place_129 rfl rfl ?_
      refine rx_getC C (k := 5) sx_24 fc_X9 (by decide) 30 rfl lk_X9_27 dX9_place_130 ?_
      refine rx_iload_n C 1 dX9_place_133 rfl rfl ?_
      refine rx_iald C (n := 8) sx_30 dX9_place_134 (fun _ => ?_)
      refine rx_iast C (n := 8) sx_31 dX9_place_135 (fun _ => ?_)
      refine rx_lts (fun σ10 => ?_)
      refine rx_aload_n C 0 dX9_place_136 rfl rfl ?_
      refine rx_iload_n C 1 dX9_place_137 rfl rfl ?_
      refine rx_iconst C dX9_place_138 ic_1 ?_
      refine rx_iadd C dX9_place_139 ?_
      refine rx_iload_n C 2 dX9_place_140 rfl rfl ?_
      refine rx_iconst C dX9_place_141 ic_1 ?_
      refine rx_iadd C dX9_place_142 ?_
      refine rx_callVv C [.int (x1 + (1 : Int32)), .int (x2 + (1 : Int32))] [] (hrec (x1 + (1 : Int32)) (x2 + (1 : Int32)) σ10) mv_X9_place lk_X9_107 sx_24 rfl rfl rfl (Nat.le_of_ble_eq_true rfl) ⟨by omega, by omega⟩ dX9_place_143 (fun q11 => ?_)
      exact RX.loc (w_X9_place_146 C rec hrec q11.2) [] rfl
set_option maxRecDepth 100000 in
set_option maxHeartbeats 4000000 in
theorem w_X9_place_102 {d : Nat} {α : Nat → Nat} {D : va_G} {cA : Nat → ClassId} {z : Cz} (C : CX shX α D cA z RX9 cX9_place 4 none (1 * d + 2) (23 * d + 44)) (rec : Int32 → Int32 → St → Option (Unit × St)) (hrec : ∀ (x1 : Int32) (x2 : Int32) (σ : St), CT shX z.l yX9_place cX9_place 4 none (1 * d + 1) (23 * d + 21) emV α D cA [.ref (α 24), .int x1, .int x2] σ (rec x1 x2 σ)) (k_33 : Int32 → Int32 → Int32 → St → Option (Unit × St)) (hk_33 : ∀ (x1 : Int32) (x2 : Int32) (x3 : Int32) (σ : St), RX emV shX α D cA z 4 σ 33 [(0, .ref (α 24)), (1, .int x1), (2, .int x2), (3, .int x3)] [] (k_33 x1 x2 x3 σ)) (x1 : Int32) (x2 : Int32) (x3 : Int32) (σ : St) : RX emV shX α D cA z 4 σ 102 [(0, .ref (α 24)), (1, .int x1), (2, .int x2), (3, .int x3)] [] (f_X9_place_102 rec k_33 x1 x2 x3 σ) := by
  unfold f_X9_place_102
  refine rx_iinc C (k0 := 3) (v := x3 + (1 : Int32)) [(3, .int (x3 + (1 : Int32))), (0, .ref (α 24)), (1, .int x1), (2, .int x2)] dX9_place_102 rfl (congrArg _ ic_1) (by decide) rfl ?_
  refine rx_goto C (tgt := 33) dX9_place_105 (by decide) ?_
  exact RX.loc (hk_33 x1 x2 (x3 + (1 : Int32)) σ) [1, 2, 3, 0] rfl
set_option maxRecDepth 100000 in
set_option maxHeartbeats 4000000 in
theorem w_X9_place_33 {d : Nat} {α : Nat → Nat} {D : va_G} {cA : Nat → ClassId} {z : Cz} (C : CX shX α D cA z RX9 cX9_place 4 none (1 * d + 2) (23 * d + 44)) (rec : Int32 → Int32 → St → Option (Unit × St)) (hrec : ∀ (x1 : Int32) (x2 : Int32) (σ : St), CT shX z.l yX9_place cX9_place 4 none (1 * d + 1) (23 * d + 21) emV α D cA [.ref (α 24), .int x1, .int x2] σ (rec x1 x2 σ)) : ∀ (n : Nat) (x1 : Int32) (x2 : Int32) (x3 : Int32) (σ : St), RX emV shX α D cA z 4 σ 33 [(0, .ref (α 24)), (1, .int x1), (2, .int x2), (3, .int x3)] [] (f_X9_place_33 rec n x1 x2 x3 σ) := by
  intro n
  induction n with
  | zero => intros; exact rx_none
  | succ n hk_33 =>
    intro x1 x2 x3 σ
    rw [f_X9_place_33.eq_2]
    refine rx_iload_n C 3 dX9_place_33 rfl rfl ?_
    refine rx_iload_n C 2 dX9_place_34 rfl rfl ?_
    refine rx_icmp_ge C (tgt := 108) dX9_place_35 (by decide) (fun _ => ?_) (fun _ => ?_)
    · exact RX.loc (w_X9_place_108 C rec hrec x1 x2 σ) [0, 1, 2] rfl
    · refine rx_iload_n C 3 dX9_place_38 rfl rfl ?_
      refine rx_bipush C dX9_place_39 bp_8 ?_
      refine rx_icmp_ge C (tgt := 108) dX9_place_41 (by decide) (fun _ => ?_) (fun _ => ?_)
      · exact RX.loc (w_X9_place_108 C rec hrec x1 x2 σ) [0, 1, 2] rfl
      · refine rx_aload_n C 0 dX9_place_44 rfl rfl ?_
        refine rx_getC C (k := 6) sx_24 fc_X9 (by decide) 31 rfl lk_X9_30 dX9_place_45 ?_
        refine rx_iload_n C 3 dX9_place_48 rfl rfl ?_
        refine rx_iald C (n := 8) sx_31 dX9_place_49 (fun _ => ?_)
        refine rx_aload_n C 0 dX9_place_50 rfl rfl ?_
        refine rx_getC C (k := 5) sx_24 fc_X9 (by decide) 30 rfl lk_X9_27 dX9_place_51 ?_
        refine rx_iload_n C 1 dX9_place_54 rfl rfl ?_
        refine rx_iald C (n := 8) sx_30 dX9_place_55 (fun _ => ?_)
        refine rx_iadd C dX9_place_56 ?_
        refine rx_aload_n C 0 dX9_place_57 rfl rfl ?_
        refine rx_getI C (k := 13) sx_24 fc_X9 (by decide) rfl lk_X9_96 dX9_place_58 ?_
        refine rx_icmp_gt C (tgt := 102) dX9_place_61 (by decide) (fun _ => ?_) (fun _ => ?_)
        · exact RX.loc (w_X9_place_102 C rec hrec (f_X9_place_33 rec n) hk_33 x1 x2 x3 σ) [0, 1, 2, 3] rfl
        · refine rx_aload_n C 0 dX9_place_64 rfl rfl ?_
          refine rx_getC C (k := 6) sx_24 fc_X9 (by decide) 31 rfl lk_X9_30 dX9_place_65 ?_
          refine rx_iload_n C 3 dX9_place_68 rfl rfl ?_
          refine rx_dup2 C dX9_place_69 rfl rfl ?_
          refine rx_iald C (n := 8) sx_31 dX9_place_70 (fun _ => ?_)
          refine rx_aload_n C 0 dX9_place_71 rfl rfl ?_
          refine rx_getC C (k := 5) sx_24 fc_X9 (by decide) 30 rfl lk_X9_27 dX9_place_72 ?_
          refine rx_iload_n C 1 dX9_place_75 rfl rfl ?_
          refine rx_iald C (n := 8) sx_30 dX9_place_76 (fun _ => ?_)
          refine rx_iadd C dX9_place_77 ?_
          refine rx_iast C (n := 8) sx_31 dX9_place_78 (fun _ => ?_)
          refine rx_lts (fun σ12 => ?_)
          refine rx_aload_n C 0 dX9_place_79 rfl rfl ?_
          refine rx_iload_n C 1 dX9_place_80 rfl rfl ?_
          refine rx_iconst C dX9_place_81 ic_1 ?_
          refine rx_iadd C dX9_place_82 ?_
          refine rx_iload_n C 2 dX9_place_83 rfl rfl ?_
          refine rx_callVv C [.int (x1 + (1 : Int32)), .int x2] [] (hrec (x1 + (1 : Int32)) x2 σ12) mv_X9_place lk_X9_107 sx_24 rfl rfl rfl (Nat.le_of_ble_eq_true rfl) ⟨by omega, by omega⟩ dX9_place_84 (fun q13 => ?_)
          refine rx_aload_n C 0 dX9_place_87 rfl rfl ?_
          refine rx_getC C (k := 6) sx_24 fc_X9 (by decide) 31 rfl lk_X9_30 dX9_place_88 ?_
          refine rx_iload_n C 3 dX9_place_91 rfl rfl ?_
          refine rx_dup2 C dX9_place_92 rfl rfl ?_
          refine rx_iald C (n := 8) sx_31 dX9_place_93 (fun _ => ?_)
          refine rx_aload_n C 0 dX9_place_94 rfl rfl ?_
          refine rx_getC C (k := 5) sx_24 fc_X9 (by decide) 30 rfl lk_X9_27 dX9_place_95 ?_
          refine rx_iload_n C 1 dX9_place_98 rfl rfl ?_
          refine rx_iald C (n := 8) sx_30 dX9_place_99 (fun _ => ?_)
          refine rx_isub C dX9_place_100 ?_
          refine rx_iast C (n := 8) sx_31 dX9_place_101 (fun _ => ?_)
          refine rx_lts (fun σ14 => ?_)
          exact RX.loc (w_X9_place_102 C rec hrec (f_X9_place_33 rec n) hk_33 x1 x2 x3 σ14) [0, 1, 2, 3] rfl
set_option maxRecDepth 100000 in
set_option maxHeartbeats 4000000 in
theorem w_X9_place_e {d : Nat} {α : Nat → Nat} {D : va_G} {cA : Nat → ClassId} {z : Cz} (C : CX shX α D cA z RX9 cX9_place 4 none (1 * d + 2) (23 * d + 44)) (rec : Int32 → Int32 → St → Option (Unit × St)) (hrec : ∀ (x1 : Int32) (x2 : Int32) (σ : St), CT shX z.l yX9_place cX9_place 4 none (1 * d + 1) (23 * d + 21) emV α D cA [.ref (α 24), .int x1, .int x2] σ (rec x1 x2 σ)) (x1 : Int32) (x2 : Int32) (σ : St) : RX emV shX α D cA z 4 σ 0 [(0, .ref (α 24)), (1, .int x1), (2, .int x2)] [] (fb_X9_place rec x1 x2 σ) := by
  unfold fb_X9_place
  refine rx_iload_n C 1 dX9_place_0 rfl rfl ?_
  refine rx_if_lt C (tgt := 18) dX9_place_1 (by decide) (fun _ => ?_) (fun _ => ?_)
  · exact RX.loc (w_X9_place_18 C rec hrec x2 σ) [0, 2] rfl
  · refine rx_iload_n C 1 dX9_place_4 rfl rfl ?_
    refine rx_aload_n C 0 dX9_place_5 rfl rfl ?_
    refine rx_getI C (k := 8) sx_24 fc_X9 (by decide) rfl lk_X9_54 dX9_place_6 ?_
    refine rx_icmp_ge C (tgt := 18) dX9_place_9 (by decide) (fun _ => ?_) (fun _ => ?_)
    · exact RX.loc (w_X9_place_18 C rec hrec x2 σ) [0, 2] rfl
    · refine rx_iload_n C 1 dX9_place_12 rfl rfl ?_
      refine rx_bipush C dX9_place_13 bp_8 ?_
      refine rx_icmp_lt C (tgt := 31) dX9_place_15 (by decide) (fun _ => ?_) (fun _ => ?_)
      · refine rx_iconst C dX9_place_31 ic_0 ?_
        refine rx_istore_n C [(3, .int (0 : Int32)), (0, .ref (α 24)), (1, .int x1), (2, .int x2)] dX9_place_32 rfl (by decide) rfl ?_
        exact RX.loc (w_X9_place_33 C rec hrec FU x1 x2 (0 : Int32) σ) [1, 2, 3, 0] rfl
      · exact RX.loc (w_X9_place_18 C rec hrec x2 σ) [0, 2] rfl
theorem m_X9_place (l : Launch) {α : Nat → Nat} {D : va_G} {cA : Nat → ClassId} (hin : inj shX.length α) (d : Nat) : ∀ (x1 : Int32) (x2 : Int32) (σ : St), CT shX l yX9_place cX9_place 4 none (1 * d + 1) (23 * d + 21) emV α D cA [.ref (α 24), .int x1, .int x2] σ (f_X9_place d x1 x2 σ) := by
  induction d with
  | zero => intro x1 x2 σ r σ1 e; cases e
  | succ d ih =>
    intro x1 x2 σ
    exact ct_of rfl (Nat.le_of_ble_eq_true rfl) hin (fun z hz C => w_X9_place_e (d := d) (C.wider (by omega) (by omega)) (f_X9_place d) (by rw [hz]; exact ih) x1 x2 σ)
set_option maxRecDepth 100000 in
set_option maxHeartbeats 4000000 in
theorem w_X9_fewestGroups_66 {α : Nat → Nat} {D : va_G} {cA : Nat → ClassId} {z : Cz} (C : CX shX α D cA z RX9 cX9_fewestGroups 6 (some .int) 26 596) (k_13 : Int32 → Int32 → Int32 → St → Option (Int32 × St)) (hk_13 : ∀ (x2 : Int32) (x3 : Int32) (x4 : Int32) (σ : St), RX emI shX α D cA z 6 σ 13 [(0, .ref (α 24)), (1, .ref (α 6)), (2, .int x2), (3, .int x3), (4, .int x4)] [] (k_13 x2 x3 x4 σ)) (x2 : Int32) (x3 : Int32) (x4 : Int32) (σ : St) : RX emI shX α D cA z 6 σ 66 [(0, .ref (α 24)), (1, .ref (α 6)), (2, .int x2), (3, .int x3), (4, .int x4)] [] (f_X9_fewestGroups_66 k_13 x2 x3 x4 σ) := by
  unfold f_X9_fewestGroups_66
  refine rx_iinc C (k0 := 4) (v := x4 + (1 : Int32)) [(4, .int (x4 + (1 : Int32))), (0, .ref (α 24)), (1, .ref (α 6)), (2, .int x2), (3, .int x3)] dX9_fewestGroups_66 rfl (congrArg _ ic_1) (by decide) rfl ?_
  refine rx_goto C (tgt := 13) dX9_fewestGroups_69 (by decide) ?_
  exact RX.loc (hk_13 x2 x3 (x4 + (1 : Int32)) σ) [1, 2, 3, 4, 0] rfl
set_option maxRecDepth 100000 in
set_option maxHeartbeats 4000000 in
theorem w_X9_fewestGroups_13 {α : Nat → Nat} {D : va_G} {cA : Nat → ClassId} {z : Cz} (C : CX shX α D cA z RX9 cX9_fewestGroups 6 (some .int) 26 596) : ∀ (n : Nat) (x2 : Int32) (x3 : Int32) (x4 : Int32) (σ : St), RX emI shX α D cA z 6 σ 13 [(0, .ref (α 24)), (1, .ref (α 6)), (2, .int x2), (3, .int x3), (4, .int x4)] [] (f_X9_fewestGroups_13 n x2 x3 x4 σ) := by
  intro n
  induction n with
  | zero => intros; exact rx_none
  | succ n hk_13 =>
    intro x2 x3 x4 σ
    rw [f_X9_fewestGroups_13.eq_2]
    refine rx_iload C 4 dX9_fewestGroups_13 rfl ?_
    refine rx_bipush C dX9_fewestGroups_15 bp_8 ?_
    refine rx_icmp_ge C (tgt := 72) dX9_fewestGroups_17 (by decide) (fun _ => ?_) (fun _ => ?_)
    · refine rx_aload_n C 0 dX9_fewestGroups_72 rfl rfl ?_
      refine rx_aload_n C 0 dX9_fewestGroups_73 rfl rfl ?_
      refine rx_getI C (k := 8) sx_24 fc_X9 (by decide) rfl lk_X9_54 dX9_fewestGroups_74 ?_
      refine rx_putI C (k := 14) sx_24 fc_X9 (by decide) rfl lk_X9_104 rfl ⟨rfl, rfl⟩ dX9_fewestGroups_77 ?_
      refine rx_lts (fun σ10 => ?_)
      refine rx_aload_n C 0 dX9_fewestGroups_80 rfl rfl ?_
      refine rx_iconst C dX9_fewestGroups_81 ic_0 ?_
      refine rx_iconst C dX9_fewestGroups_82 ic_0 ?_
      refine rx_callVv C [.int (0 : Int32), .int (0 : Int32)] [] (m_X9_place z.l C.inj 24 (0 : Int32) (0 : Int32) σ10) mv_X9_place lk_X9_107 sx_24 rfl rfl rfl (Nat.le_of_ble_eq_true rfl) ⟨Nat.le_of_ble_eq_true rfl, Nat.le_of_ble_eq_true rfl⟩ dX9_fewestGroups_83 (fun q11 => ?_)
      refine rx_aload_n C 0 dX9_fewestGroups_86 rfl rfl ?_
      refine rx_getI C (k := 14) sx_24 fc_X9 (by decide) rfl lk_X9_104 dX9_fewestGroups_87 ?_
      exact rx_iret C dX9_fewestGroups_90
    · refine rx_iload_n C 2 dX9_fewestGroups_20 rfl rfl ?_
      refine rx_iload C 4 dX9_fewestGroups_21 rfl ?_
      refine rx_ishr C dX9_fewestGroups_23 ?_
      refine rx_iconst C dX9_fewestGroups_24 ic_1 ?_
      refine rx_iand C dX9_fewestGroups_25 ?_
      refine rx_if_eq C (tgt := 66) dX9_fewestGroups_26 (by decide) (fun _ => ?_) (fun _ => ?_)
      · exact RX.loc (w_X9_fewestGroups_66 C (f_X9_fewestGroups_13 n) hk_13 x2 x3 x4 σ) [0, 1, 2, 3, 4] rfl
      · refine rx_aload_n C 1 dX9_fewestGroups_29 rfl rfl ?_
        refine rx_iload C 4 dX9_fewestGroups_30 rfl ?_
        refine rx_callVi C [.int x4] [] (m_X2_loadOf z.l C.inj x4 σ) mv_X2_loadOf lk_X9_99 sx_6 rfl rfl rfl (Nat.le_of_ble_eq_true rfl) ⟨Nat.le_of_ble_eq_true rfl, Nat.le_of_ble_eq_true rfl⟩ dX9_fewestGroups_32 (fun q12 => ?_)
        refine rx_istore C [(5, .int q12.1), (0, .ref (α 24)), (1, .ref (α 6)), (2, .int x2), (3, .int x3), (4, .int x4)] dX9_fewestGroups_35 (by decide) rfl ?_
        refine rx_iload C 0 dX9_fewestGroups_37 rfl ?_
        refine rx_iload_n C 4 dX9_fewestGroups_39 rfl rfl ?_
        refine rx_icmp_le C (tgt := 45) dX9_fewestGroups_40 (by decide) (fun _ => ?_) (fun _ => ?_)
        · refine rx_aload_n C 1 dX9_fewestGroups_45 rfl rfl ?_
          refine rx_getC C (k := 5) sx_24 fc_X9 (by decide) 30 rfl lk_X9_27 dX9_fewestGroups_46 ?_
          refine rx_aload_n C 1 dX9_fewestGroups_49 rfl rfl ?_
          refine rx_getI C (k := 8) sx_24 fc_X9 (by decide) rfl lk_X9_54 dX9_fewestGroups_50 ?_
          refine rx_iload C 0 dX9_fewestGroups_53 rfl ?_
          refine rx_iast C (n := 8) sx_30 dX9_fewestGroups_55 (fun _ => ?_)
          refine rx_lts (fun σ13 => ?_)
          refine rx_aload_n C 1 dX9_fewestGroups_56 rfl rfl ?_
          refine rx_dup C dX9_fewestGroups_57 rfl ?_
          refine rx_getI C (k := 8) sx_24 fc_X9 (by decide) rfl lk_X9_54 dX9_fewestGroups_58 ?_
          refine rx_iconst C dX9_fewestGroups_61 ic_1 ?_
          refine rx_iadd C dX9_fewestGroups_62 ?_
          refine rx_putI C (k := 8) sx_24 fc_X9 (by decide) rfl lk_X9_54 rfl ⟨rfl, rfl⟩ dX9_fewestGroups_63 ?_
          refine rx_lts (fun σ14 => ?_)
          exact RX.loc (w_X9_fewestGroups_66 C (f_X9_fewestGroups_13 n) hk_13 x2 x3 x4 σ14) [1, 2, 3, 4, 5] rfl
        · refine rx_iconst C dX9_fewestGroups_43 ic_m1 ?_
          exact rx_iret C dX9_fewestGroups_44
set_option maxRecDepth 100000 in
set_option maxHeartbeats 4000000 in
theorem w_X9_fewestGroups_e {α : Nat → Nat} {D : va_G} {cA : Nat → ClassId} {z : Cz} (C : CX shX α D cA z RX9 cX9_fewestGroups 6 (some .int) 26 596) (x2 : Int32) (x3 : Int32) (σ : St) : RX emI shX α D cA z 6 σ 0 [(0, .ref (α 24)), (1, .ref (α 6)), (2, .int x2), (3, .int x3)] [] (f_X9_fewestGroups x2 x3 σ) := by
  unfold f_X9_fewestGroups
  refine rx_aload_n C 0 dX9_fewestGroups_0 rfl rfl ?_
  refine rx_iconst C dX9_fewestGroups_1 ic_0 ?_
  refine rx_putI C (k := 8) sx_24 fc_X9 (by decide) rfl lk_X9_54 rfl ⟨rfl, rfl⟩ dX9_fewestGroups_2 ?_
  refine rx_lts (fun σ8 => ?_)
  refine rx_aload_n C 0 dX9_fewestGroups_5 rfl rfl ?_
  refine rx_iload_n C 3 dX9_fewestGroups_6 rfl rfl ?_
  refine rx_putI C (k := 13) sx_24 fc_X9 (by decide) rfl lk_X9_96 rfl ⟨rfl, rfl⟩ dX9_fewestGroups_7 ?_
  refine rx_lts (fun σ9 => ?_)
  refine rx_iconst C dX9_fewestGroups_10 ic_0 ?_
  refine rx_istore C [(4, .int (0 : Int32)), (0, .ref (α 24)), (1, .ref (α 6)), (2, .int x2), (3, .int x3)] dX9_fewestGroups_11 (by decide) rfl ?_
  exact RX.loc (w_X9_fewestGroups_13 C FU x2 x3 (0 : Int32) σ9) [1, 2, 3, 4, 0] rfl
theorem m_X9_fewestGroups (l : Launch) {α : Nat → Nat} {D : va_G} {cA : Nat → ClassId} (hin : inj shX.length α) (x2 : Int32) (x3 : Int32) (σ : St) : CT shX l yX9_fewestGroups cX9_fewestGroups 6 (some .int) 26 596 emI α D cA [.ref (α 24), .ref (α 6), .int x2, .int x3] σ (f_X9_fewestGroups x2 x3 σ) := ct_of rfl (Nat.le_of_ble_eq_true rfl) hin (fun z _ C => w_X9_fewestGroups_e C x2 x3 σ)
set_option maxRecDepth 100000 in
set_option maxHeartbeats 4000000 in
theorem w_X10_counted_25 {α : Nat → Nat} {D : va_G} {cA : Nat → ClassId} {z : Cz} (C : CX shX α D cA z RX10 cX10_counted 3 (some .int) 0 0) (x1 : Int32) (σ : St) : RX emI shX α D cA z 3 σ 25 [(1, .int x1)] [] (f_X10_counted_25 x1 σ) := by
  unfold f_X10_counted_25
  refine rx_iload_n C 0 dX10_counted_25 rfl rfl ?_
  exact rx_iret C dX10_counted_26
set_option maxRecDepth 100000 in
set_option maxHeartbeats 4000000 in
theorem w_X10_counted_e {α : Nat → Nat} {D : va_G} {cA : Nat → ClassId} {z : Cz} (C : CX shX α D cA z RX10 cX10_counted 3 (some .int) 0 0) (x1 : Int32) (x2 : Int32) (σ : St) : RX emI shX α D cA z 3 σ 0 [(0, .ref (α 0)), (1, .int x1), (2, .int x2)] [] (f_X10_counted x1 x2 σ) := by
  unfold f_X10_counted
  refine rx_iload_n C 1 dX10_counted_0 rfl rfl ?_
  refine rx_iconst C dX10_counted_1 ic_m1 ?_
  refine rx_icmp_ne C (tgt := 25) dX10_counted_2 (by decide) (fun _ => ?_) (fun _ => ?_)
  · refine rx_iload_n C 2 dX10_counted_5 rfl rfl ?_
    refine rx_if_lt C (tgt := 25) dX10_counted_6 (by decide) (fun _ => ?_) (fun _ => ?_)
    · exact RX.loc (w_X10_counted_25 C x1 σ) [1] rfl
    · refine rx_iload_n C 2 dX10_counted_9 rfl rfl ?_
      refine rx_bipush C dX10_counted_10 bp_6 ?_
      refine rx_icmp_ge C (tgt := 25) dX10_counted_12 (by decide) (fun _ => ?_) (fun _ => ?_)
      · exact RX.loc (w_X10_counted_25 C x1 σ) [1] rfl
      · refine rx_aload_n C 0 dX10_counted_15 rfl rfl ?_
        refine rx_getC C (k := 1) sx_0 fc_X10 (by decide) 2 rfl lk_X10_13 dX10_counted_16 ?_
        refine rx_iload_n C 2 dX10_counted_19 rfl rfl ?_
        refine rx_dup2 C dX10_counted_20 rfl rfl ?_
        refine rx_iald C (n := 6) sx_2 dX10_counted_21 (fun _ => ?_)
        refine rx_iconst C dX10_counted_22 ic_1 ?_
        refine rx_iadd C dX10_counted_23 ?_
        refine rx_iast C (n := 6) sx_2 dX10_counted_24 (fun _ => ?_)
        refine rx_lts (fun σ2 => ?_)
        exact RX.loc (w_X10_counted_25 C x1 σ2) [1] rfl
  · exact RX.loc (w_X10_counted_25 C x1 σ) [1] rfl
theorem m_X10_counted (l : Launch) {α : Nat → Nat} {D : va_G} {cA : Nat → ClassId} (hin : inj shX.length α) (x1 : Int32) (x2 : Int32) (σ : St) : CT shX l yX10_counted cX10_counted 3 (some .int) 0 0 emI α D cA [.ref (α 0), .int x1, .int x2] σ (f_X10_counted x1 x2 σ) := ct_of rfl (Nat.le_of_ble_eq_true rfl) hin (fun z _ C => w_X10_counted_e C x1 x2 σ)
set_option maxRecDepth 100000 in
set_option maxHeartbeats 4000000 in
theorem w_X10_putOnTape_49 {α : Nat → Nat} {D : va_G} {cA : Nat → ClassId} {z : Cz} (C : CX shX α D cA z RX10 cX10_putOnTape 3 none 0 0) (σ : St) : RX emV shX α D cA z 3 σ 49 [] [] (f_X10_putOnTape_49 σ) := by
  unfold f_X10_putOnTape_49
  exact rx_vret C dX10_putOnTape_49
set_option maxRecDepth 100000 in
set_option maxHeartbeats 4000000 in
theorem w_X10_putOnTape_3 {α : Nat → Nat} {D : va_G} {cA : Nat → ClassId} {z : Cz} (C : CX shX α D cA z RX10 cX10_putOnTape 3 none 0 0) : ∀ (n : Nat) (x1 : Int32) (x2 : Int32) (σ : St), RX emV shX α D cA z 3 σ 3 [(0, .ref (α 0)), (1, .int x1), (2, .int x2)] [] (f_X10_putOnTape_3 n x1 x2 σ) := by
  intro n
  induction n with
  | zero => intros; exact rx_none
  | succ n hk_3 =>
    intro x1 x2 σ
    rw [f_X10_putOnTape_3.eq_2]
    refine rx_iload_n C 2 dX10_putOnTape_3 rfl rfl ?_
    refine rx_if_lt C (tgt := 49) dX10_putOnTape_4 (by decide) (fun _ => ?_) (fun _ => ?_)
    · exact RX.loc (w_X10_putOnTape_49 C σ) [] rfl
    · refine rx_aload_n C 0 dX10_putOnTape_7 rfl rfl ?_
      refine rx_getI C (k := 9) sx_0 fc_X10 (by decide) rfl lk_X10_73 dX10_putOnTape_8 ?_
      refine rx_sipush C dX10_putOnTape_11 sp_1600 ?_
      refine rx_icmp_ge C (tgt := 49) dX10_putOnTape_14 (by decide) (fun _ => ?_) (fun _ => ?_)
      · exact RX.loc (w_X10_putOnTape_49 C σ) [] rfl
      · refine rx_aload_n C 0 dX10_putOnTape_17 rfl rfl ?_
        refine rx_getC C (k := 0) sx_0 fc_X10 (by decide) 1 rfl lk_X10_9 dX10_putOnTape_18 ?_
        refine rx_aload_n C 0 dX10_putOnTape_21 rfl rfl ?_
        refine rx_getI C (k := 9) sx_0 fc_X10 (by decide) rfl lk_X10_73 dX10_putOnTape_22 ?_
        refine rx_iload_n C 1 dX10_putOnTape_25 rfl rfl ?_
        refine rx_iload_n C 2 dX10_putOnTape_26 rfl rfl ?_
        refine rx_ishr C dX10_putOnTape_27 ?_
        refine rx_sipush C dX10_putOnTape_28 sp_255 ?_
        refine rx_iand C dX10_putOnTape_31 ?_
        refine rx_iast C (n := 1600) sx_1 dX10_putOnTape_32 (fun _ => ?_)
        refine rx_lts (fun σ3 => ?_)
        refine rx_aload_n C 0 dX10_putOnTape_33 rfl rfl ?_
        refine rx_dup C dX10_putOnTape_34 rfl ?_
        refine rx_getI C (k := 9) sx_0 fc_X10 (by decide) rfl lk_X10_73 dX10_putOnTape_35 ?_
        refine rx_iconst C dX10_putOnTape_38 ic_1 ?_
        refine rx_iadd C dX10_putOnTape_39 ?_
        refine rx_putI C (k := 9) sx_0 fc_X10 (by decide) rfl lk_X10_73 rfl ⟨rfl, rfl⟩ dX10_putOnTape_40 ?_
        refine rx_lts (fun σ4 => ?_)
        refine rx_iinc C (k0 := 2) (v := x2 + (-8 : Int32)) [(2, .int (x2 + (-8 : Int32))), (0, .ref (α 0)), (1, .int x1)] dX10_putOnTape_43 rfl (congrArg _ ic_m8) (by decide) rfl ?_
        refine rx_goto C (tgt := 3) dX10_putOnTape_46 (by decide) ?_
        exact RX.loc (hk_3 x1 (x2 + (-8 : Int32)) σ4) [1, 2, 0] rfl
set_option maxRecDepth 100000 in
set_option maxHeartbeats 4000000 in
theorem w_X10_putOnTape_e {α : Nat → Nat} {D : va_G} {cA : Nat → ClassId} {z : Cz} (C : CX shX α D cA z RX10 cX10_putOnTape 3 none 0 0) (x1 : Int32) (σ : St) : RX emV shX α D cA z 3 σ 0 [(0, .ref (α 0)), (1, .int x1)] [] (f_X10_putOnTape x1 σ) := by
  unfold f_X10_putOnTape
  refine rx_bipush C dX10_putOnTape_0 bp_24 ?_
  refine rx_istore_n C [(2, .int (24 : Int32)), (0, .ref (α 0)), (1, .int x1)] dX10_putOnTape_2 rfl (by decide) rfl ?_
  exact RX.loc (w_X10_putOnTape_3 C FU x1 (24 : Int32) σ) [1, 2, 0] rfl
theorem m_X10_putOnTape (l : Launch) {α : Nat → Nat} {D : va_G} {cA : Nat → ClassId} (hin : inj shX.length α) (x1 : Int32) (σ : St) : CT shX l yX10_putOnTape cX10_putOnTape 3 none 0 0 emV α D cA [.ref (α 0), .int x1] σ (f_X10_putOnTape x1 σ) := ct_of rfl (Nat.le_of_ble_eq_true rfl) hin (fun z _ C => w_X10_putOnTape_e C x1 σ)
set_option maxRecDepth 100000 in
set_option maxHeartbeats 4000000 in
theorem w_X10_feed_e {α : Nat → Nat} {D : va_G} {cA : Nat → ClassId} {z : Cz} (C : CX shX α D cA z RX10 cX10_feed 6 (some .int) 1 22) (x1 : Int32) (x2 : Int32) (x3 : Int32) (x4 : Int32) (x5 : Int32) (σ : St) : RX emI shX α D cA z 6 σ 0 [(0, .ref (α 0)), (1, .int x1), (2, .int x2), (3, .int x3), (4, .int x4), (5, .int x5)] [] (f_X10_feed x1 x2 x3 x4 x5 σ) := by
  unfold f_X10_feed
  refine rx_aload_n C 0 dX10_feed_0 rfl rfl ?_
  refine rx_getI C (k := 9) sx_0 fc_X10 (by decide) rfl lk_X10_73 dX10_feed_1 ?_
  refine rx_bipush C dX10_feed_4 bp_20 ?_
  refine rx_iadd C dX10_feed_6 ?_
  refine rx_sipush C dX10_feed_7 sp_1600 ?_
  refine rx_icmp_le C (tgt := 20) dX10_feed_10 (by decide) (fun _ => ?_) (fun _ => ?_)
  · refine rx_aload_n C 0 dX10_feed_20 rfl rfl ?_
    refine rx_iload_n C 1 dX10_feed_21 rfl rfl ?_
    refine rx_callVv C [.int x1] [] (m_X10_putOnTape z.l C.inj x1 σ) mv_X10_putOnTape lk_X10_87 sx_0 rfl rfl rfl (Nat.le_of_ble_eq_true rfl) ⟨Nat.le_of_ble_eq_true rfl, Nat.le_of_ble_eq_true rfl⟩ dX10_feed_22 (fun q7 => ?_)
    refine rx_aload_n C 0 dX10_feed_25 rfl rfl ?_
    refine rx_iload_n C 2 dX10_feed_26 rfl rfl ?_
    refine rx_callVv C [.int x2] [] (m_X10_putOnTape z.l C.inj x2 q7.2) mv_X10_putOnTape lk_X10_87 sx_0 rfl rfl rfl (Nat.le_of_ble_eq_true rfl) ⟨Nat.le_of_ble_eq_true rfl, Nat.le_of_ble_eq_true rfl⟩ dX10_feed_27 (fun q8 => ?_)
    refine rx_aload_n C 0 dX10_feed_30 rfl rfl ?_
    refine rx_iload_n C 3 dX10_feed_31 rfl rfl ?_
    refine rx_callVv C [.int x3] [] (m_X10_putOnTape z.l C.inj x3 q8.2) mv_X10_putOnTape lk_X10_87 sx_0 rfl rfl rfl (Nat.le_of_ble_eq_true rfl) ⟨Nat.le_of_ble_eq_true rfl, Nat.le_of_ble_eq_true rfl⟩ dX10_feed_32 (fun q9 => ?_)
    refine rx_aload_n C 0 dX10_feed_35 rfl rfl ?_
    refine rx_iload C 4 dX10_feed_36 rfl ?_
    refine rx_callVv C [.int x4] [] (m_X10_putOnTape z.l C.inj x4 q9.2) mv_X10_putOnTape lk_X10_87 sx_0 rfl rfl rfl (Nat.le_of_ble_eq_true rfl) ⟨Nat.le_of_ble_eq_true rfl, Nat.le_of_ble_eq_true rfl⟩ dX10_feed_38 (fun q10 => ?_)
    refine rx_aload_n C 0 dX10_feed_41 rfl rfl ?_
    refine rx_iload C 5 dX10_feed_42 rfl ?_
    refine rx_callVv C [.int x5] [] (m_X10_putOnTape z.l C.inj x5 q10.2) mv_X10_putOnTape lk_X10_87 sx_0 rfl rfl rfl (Nat.le_of_ble_eq_true rfl) ⟨Nat.le_of_ble_eq_true rfl, Nat.le_of_ble_eq_true rfl⟩ dX10_feed_44 (fun q11 => ?_)
    refine rx_aload_n C 0 dX10_feed_47 rfl rfl ?_
    refine rx_getI C (k := 9) sx_0 fc_X10 (by decide) rfl lk_X10_73 dX10_feed_48 ?_
    exact rx_iret C dX10_feed_51
  · refine rx_aload_n C 0 dX10_feed_13 rfl rfl ?_
    refine rx_iconst C dX10_feed_14 ic_m1 ?_
    refine rx_iconst C dX10_feed_15 ic_0 ?_
    refine rx_callVi C [.int (-1 : Int32), .int (0 : Int32)] [] (m_X10_counted z.l C.inj (-1 : Int32) (0 : Int32) σ) mv_X10_counted lk_X10_83 sx_0 rfl rfl rfl (Nat.le_of_ble_eq_true rfl) ⟨Nat.le_of_ble_eq_true rfl, Nat.le_of_ble_eq_true rfl⟩ dX10_feed_16 (fun q12 => ?_)
    exact rx_iret C dX10_feed_19
theorem m_X10_feed (l : Launch) {α : Nat → Nat} {D : va_G} {cA : Nat → ClassId} (hin : inj shX.length α) (x1 : Int32) (x2 : Int32) (x3 : Int32) (x4 : Int32) (x5 : Int32) (σ : St) : CT shX l yX10_feed cX10_feed 6 (some .int) 1 22 emI α D cA [.ref (α 0), .int x1, .int x2, .int x3, .int x4, .int x5] σ (f_X10_feed x1 x2 x3 x4 x5 σ) := ct_of rfl (Nat.le_of_ble_eq_true rfl) hin (fun z _ C => w_X10_feed_e C x1 x2 x3 x4 x5 σ)
set_option maxRecDepth 100000 in
set_option maxHeartbeats 4000000 in
theorem w_X10_granted_23 {α : Nat → Nat} {D : va_G} {cA : Nat → ClassId} {z : Cz} (C : CX shX α D cA z RX10 cX10_granted 3 (some .boolean) 1 22) (s0 : Int32) (σ : St) : RX emI shX α D cA z 3 σ 23 [] [.int s0] (f_X10_granted_23 s0 σ) := by
  unfold f_X10_granted_23
  exact rx_zret C dX10_granted_23
set_option maxRecDepth 100000 in
set_option maxHeartbeats 4000000 in
theorem w_X10_granted_10 {α : Nat → Nat} {D : va_G} {cA : Nat → ClassId} {z : Cz} (C : CX shX α D cA z RX10 cX10_granted 3 (some .boolean) 1 22) (x2 : Int32) (s1 : Int32) (σ : St) : RX emI shX α D cA z 3 σ 10 [(2, .int x2)] [.int s1, .ref (α 0)] (f_X10_granted_10 x2 s1 σ) := by
  unfold f_X10_granted_10
  refine rx_iload_n C 0 dX10_granted_10 rfl rfl ?_
  refine rx_callVi C [.int s1, .int x2] [] (m_X10_counted z.l C.inj s1 x2 σ) mv_X10_counted lk_X10_83 sx_0 rfl rfl rfl (Nat.le_of_ble_eq_true rfl) ⟨Nat.le_of_ble_eq_true rfl, Nat.le_of_ble_eq_true rfl⟩ dX10_granted_11 (fun q2 => ?_)
  refine rx_iconst C dX10_granted_14 ic_m1 ?_
  refine rx_icmp_eq C (tgt := 22) dX10_granted_15 (by decide) (fun _ => ?_) (fun _ => ?_)
  · refine rx_iconst C dX10_granted_22 ic_0 ?_
    exact RX.loc (w_X10_granted_23 C (0 : Int32) q2.2) [] rfl
  · refine rx_iconst C dX10_granted_18 ic_1 ?_
    refine rx_goto C (tgt := 23) dX10_granted_19 (by decide) ?_
    exact RX.loc (w_X10_granted_23 C (1 : Int32) q2.2) [] rfl
set_option maxRecDepth 100000 in
set_option maxHeartbeats 4000000 in
theorem w_X10_granted_e {α : Nat → Nat} {D : va_G} {cA : Nat → ClassId} {z : Cz} (C : CX shX α D cA z RX10 cX10_granted 3 (some .boolean) 1 22) (x1 : Int32) (x2 : Int32) (σ : St) : RX emI shX α D cA z 3 σ 0 [(0, .ref (α 0)), (1, .int x1), (2, .int x2)] [] (f_X10_granted x1 x2 σ) := by
  unfold f_X10_granted
  refine rx_aload_n C 0 dX10_granted_0 rfl rfl ?_
  refine rx_iload_n C 1 dX10_granted_1 rfl rfl ?_
  refine rx_if_eq C (tgt := 9) dX10_granted_2 (by decide) (fun _ => ?_) (fun _ => ?_)
  · refine rx_iconst C dX10_granted_9 ic_m1 ?_
    exact RX.loc (w_X10_granted_10 C x2 (-1 : Int32) σ) [2] rfl
  · refine rx_iconst C dX10_granted_5 ic_1 ?_
    refine rx_goto C (tgt := 10) dX10_granted_6 (by decide) ?_
    exact RX.loc (w_X10_granted_10 C x2 (1 : Int32) σ) [2] rfl
theorem m_X10_granted (l : Launch) {α : Nat → Nat} {D : va_G} {cA : Nat → ClassId} (hin : inj shX.length α) (x1 : Int32) (x2 : Int32) (σ : St) : CT shX l yX10_granted cX10_granted 3 (some .boolean) 1 22 emI α D cA [.ref (α 0), .int x1, .int x2] σ (f_X10_granted x1 x2 σ) := ct_of rfl (Nat.le_of_ble_eq_true rfl) hin (fun z _ C => w_X10_granted_e C x1 x2 σ)
set_option maxRecDepth 100000 in
set_option maxHeartbeats 4000000 in
theorem w_X10_end_12 {α : Nat → Nat} {D : va_G} {cA : Nat → ClassId} {z : Cz} (C : CX shX α D cA z RX10 cX10_end 2 (some .boolean) 2 44) (σ : St) : RX emI shX α D cA z 2 σ 12 [(0, .ref (α 0))] [] (f_X10_end_12 σ) := by
  unfold f_X10_end_12
  refine rx_aload_n C 0 dX10_end_12 rfl rfl ?_
  refine rx_iconst C dX10_end_13 ic_0 ?_
  refine rx_iconst C dX10_end_14 ic_0 ?_
  refine rx_callVi C [.int (0 : Int32), .int (0 : Int32)] [] (m_X10_granted z.l C.inj (0 : Int32) (0 : Int32) σ) mv_X10_granted lk_X10_91 sx_0 rfl rfl rfl (Nat.le_of_ble_eq_true rfl) ⟨Nat.le_of_ble_eq_true rfl, Nat.le_of_ble_eq_true rfl⟩ dX10_end_15 (fun q3 => ?_)
  exact rx_zret C dX10_end_18
set_option maxRecDepth 100000 in
set_option maxHeartbeats 4000000 in
theorem w_X10_end_e {α : Nat → Nat} {D : va_G} {cA : Nat → ClassId} {z : Cz} (C : CX shX α D cA z RX10 cX10_end 2 (some .boolean) 2 44) (x1 : Int32) (σ : St) : RX emI shX α D cA z 2 σ 0 [(0, .ref (α 0)), (1, .int x1)] [] (f_X10_end x1 σ) := by
  unfold f_X10_end
  refine rx_iload_n C 1 dX10_end_0 rfl rfl ?_
  refine rx_if_lt C (tgt := 12) dX10_end_1 (by decide) (fun _ => ?_) (fun _ => ?_)
  · exact RX.loc (w_X10_end_12 C σ) [0] rfl
  · refine rx_iload_n C 1 dX10_end_4 rfl rfl ?_
    refine rx_aload_n C 0 dX10_end_5 rfl rfl ?_
    refine rx_getI C (k := 9) sx_0 fc_X10 (by decide) rfl lk_X10_73 dX10_end_6 ?_
    refine rx_icmp_le C (tgt := 19) dX10_end_9 (by decide) (fun _ => ?_) (fun _ => ?_)
    · refine rx_aload_n C 0 dX10_end_19 rfl rfl ?_
      refine rx_iload_n C 1 dX10_end_20 rfl rfl ?_
      refine rx_putI C (k := 9) sx_0 fc_X10 (by decide) rfl lk_X10_73 rfl ⟨rfl, rfl⟩ dX10_end_21 ?_
      refine rx_lts (fun σ4 => ?_)
      refine rx_iconst C dX10_end_24 ic_1 ?_
      exact rx_zretC C dX10_end_25 rfl
    · exact RX.loc (w_X10_end_12 C σ) [0] rfl
theorem m_X10_end (l : Launch) {α : Nat → Nat} {D : va_G} {cA : Nat → ClassId} (hin : inj shX.length α) (x1 : Int32) (σ : St) : CT shX l yX10_end cX10_end 2 (some .boolean) 2 44 emI α D cA [.ref (α 0), .int x1] σ (f_X10_end x1 σ) := ct_of rfl (Nat.le_of_ble_eq_true rfl) hin (fun z _ C => w_X10_end_e C x1 σ)
set_option maxRecDepth 100000 in
set_option maxHeartbeats 4000000 in
theorem w_X10_land_e {α : Nat → Nat} {D : va_G} {cA : Nat → ClassId} {z : Cz} (C : CX shX α D cA z RX10 cX10_land 3 (some .int) 175 4020) (σ : St) : RX emI shX α D cA z 3 σ 0 [(0, .ref (α 0))] [] (f_X10_land σ) := by
  unfold f_X10_land
  refine rx_aload_n C 0 dX10_land_0 rfl rfl ?_
  refine rx_getC C (k := 2) sx_0 fc_X10 (by decide) 3 rfl lk_X10_21 dX10_land_1 ?_
  refine rx_aload_n C 0 dX10_land_4 rfl rfl ?_
  refine rx_getI C (k := 9) sx_0 fc_X10 (by decide) rfl lk_X10_73 dX10_land_5 ?_
  refine rx_callVv C [.int (gI σ 0 9)] [] (m_X6_start z.l C.inj (gI σ 0 9) σ) mv_X6_start lk_X10_95 sx_3 rfl rfl rfl (Nat.le_of_ble_eq_true rfl) ⟨Nat.le_of_ble_eq_true rfl, Nat.le_of_ble_eq_true rfl⟩ dX10_land_8 (fun q13 => ?_)
  refine rx_aload_n C 0 dX10_land_11 rfl rfl ?_
  refine rx_iconst C dX10_land_12 ic_0 ?_
  refine rx_putI C (k := 9) sx_0 fc_X10 (by decide) rfl lk_X10_73 rfl ⟨rfl, rfl⟩ dX10_land_13 ?_
  refine rx_lts (fun σ14 => ?_)
  refine rx_aload_n C 0 dX10_land_16 rfl rfl ?_
  refine rx_getC C (k := 3) sx_0 fc_X10 (by decide) 5 rfl lk_X10_37 dX10_land_17 ?_
  refine rx_aload_n C 0 dX10_land_20 rfl rfl ?_
  refine rx_getR C (k := 8) sx_0 fc_X10 (by decide) rfl lk_X10_28 dX10_land_21 ?_
  refine rx_ltr (fun g15 => ?_)
  refine rx_if (fun hg15 => ?_) (fun _ => rx_none)
  refine rx_callVi C [.ref (α g15)] [] (m_X5_readLand z.l C.inj g15 (landB_is hg15) σ14) mv_X5_readLand lk_X10_98 sx_5 rfl rfl rfl (Nat.le_of_ble_eq_true rfl) ⟨Nat.le_of_ble_eq_true rfl, Nat.le_of_ble_eq_true rfl⟩ dX10_land_24 (fun q16 => ?_)
  refine rx_istore_n C [(1, .int q16.1), (0, .ref (α 0))] dX10_land_27 rfl (by decide) rfl ?_
  refine rx_aload_n C 1 dX10_land_28 rfl rfl ?_
  refine rx_aload_n C 1 dX10_land_29 rfl rfl ?_
  refine rx_getC C (k := 2) sx_0 fc_X10 (by decide) 3 rfl lk_X10_21 dX10_land_30 ?_
  refine rx_getI C (k := 8) sx_3 fc_X6 (by decide) rfl lk_X10_102 dX10_land_33 ?_
  refine rx_putI C (k := 10) sx_0 fc_X10 (by decide) rfl lk_X10_77 rfl ⟨rfl, rfl⟩ dX10_land_36 ?_
  refine rx_lts (fun σ17 => ?_)
  refine rx_aload_n C 1 dX10_land_39 rfl rfl ?_
  refine rx_aload_n C 1 dX10_land_40 rfl rfl ?_
  refine rx_getC C (k := 2) sx_0 fc_X10 (by decide) 3 rfl lk_X10_21 dX10_land_41 ?_
  refine rx_getI C (k := 9) sx_3 fc_X6 (by decide) rfl lk_X10_103 dX10_land_44 ?_
  refine rx_putI C (k := 11) sx_0 fc_X10 (by decide) rfl lk_X10_80 rfl ⟨rfl, rfl⟩ dX10_land_47 ?_
  refine rx_lts (fun σ18 => ?_)
  refine rx_iload_n C 0 dX10_land_50 rfl rfl ?_
  refine rx_iconst C dX10_land_51 ic_m1 ?_
  refine rx_icmp_ne C (tgt := 62) dX10_land_52 (by decide) (fun _ => ?_) (fun _ => ?_)
  · refine rx_aload_n C 1 dX10_land_55 rfl rfl ?_
    refine rx_iconst C dX10_land_56 ic_m1 ?_
    refine rx_iconst C dX10_land_57 ic_1 ?_
    refine rx_callVi C [.int (-1 : Int32), .int (1 : Int32)] [] (m_X10_counted z.l C.inj (-1 : Int32) (1 : Int32) σ18) mv_X10_counted lk_X10_83 sx_0 rfl rfl rfl (Nat.le_of_ble_eq_true rfl) ⟨Nat.le_of_ble_eq_true rfl, Nat.le_of_ble_eq_true rfl⟩ dX10_land_58 (fun q19 => ?_)
    exact rx_iret C dX10_land_61
  · refine rx_aload_n C 1 dX10_land_62 rfl rfl ?_
    refine rx_getC C (k := 4) sx_0 fc_X10 (by decide) 6 rfl lk_X10_53 dX10_land_63 ?_
    refine rx_getR C (k := 0) sx_6 fc_X2 (by decide) rfl lk_X10_106 dX10_land_66 ?_
    refine rx_ltr (fun g20 => ?_)
    refine rx_if (fun hg20 => ?_) (fun _ => rx_none)
    refine rx_astore_n C [(2, .ref (α g20)), (1, .int q16.1), (0, .ref (α 0))] dX10_land_69 rfl (by decide) rfl ?_
    refine rx_aload_n C 2 dX10_land_70 rfl rfl ?_
    refine rx_getC C (k := 4) sx_0 fc_X10 (by decide) 6 rfl lk_X10_53 dX10_land_71 ?_
    refine rx_aload_n C 2 dX10_land_74 rfl rfl ?_
    refine rx_getR C (k := 8) sx_0 fc_X10 (by decide) rfl lk_X10_28 dX10_land_75 ?_
    refine rx_ltr (fun g21 => ?_)
    refine rx_if (fun hg21 => ?_) (fun _ => rx_none)
    refine rx_callVv C [.ref (α g21)] [] (m_X2_settle z.l C.inj g21 (landB_is hg21) σ18) mv_X2_settle lk_X10_109 sx_6 rfl rfl rfl (Nat.le_of_ble_eq_true rfl) ⟨Nat.le_of_ble_eq_true rfl, Nat.le_of_ble_eq_true rfl⟩ dX10_land_78 (fun q22 => ?_)
    refine rx_aload_n C 2 dX10_land_81 rfl rfl ?_
    refine rx_getC C (k := 5) sx_0 fc_X10 (by decide) 18 rfl lk_X10_62 dX10_land_82 ?_
    refine rx_callVv C [] [] (m_X1_forget z.l C.inj q22.2) mv_X1_forget lk_X10_112 sx_18 rfl rfl rfl (Nat.le_of_ble_eq_true rfl) ⟨Nat.le_of_ble_eq_true rfl, Nat.le_of_ble_eq_true rfl⟩ dX10_land_85 (fun q23 => ?_)
    refine rx_aload_n C 2 dX10_land_88 rfl rfl ?_
    refine rx_aload_n C 0 dX10_land_89 rfl rfl ?_
    refine rx_putR C (k := 8) sx_0 fc_X10 (by decide) rfl lk_X10_28 rfl ⟨rfl, rfl⟩ dX10_land_90 ?_
    refine rx_lts (fun σ24 => ?_)
    refine rx_iload_n C 1 dX10_land_93 rfl rfl ?_
    exact rx_iret C dX10_land_94
theorem m_X10_land (l : Launch) {α : Nat → Nat} {D : va_G} {cA : Nat → ClassId} (hin : inj shX.length α) (σ : St) : CT shX l yX10_land cX10_land 3 (some .int) 175 4020 emI α D cA [.ref (α 0)] σ (f_X10_land σ) := ct_of rfl (Nat.le_of_ble_eq_true rfl) hin (fun z _ C => w_X10_land_e C σ)
set_option maxRecDepth 100000 in
set_option maxHeartbeats 4000000 in
theorem w_X10_fault_e {α : Nat → Nat} {D : va_G} {cA : Nat → ClassId} {z : Cz} (C : CX shX α D cA z RX10 cX10_fault 2 (some .int) 0 0) (x1 : Int32) (σ : St) : RX emI shX α D cA z 2 σ 0 [(0, .ref (α 0)), (1, .int x1)] [] (f_X10_fault x1 σ) := by
  unfold f_X10_fault
  refine rx_iload_n C 1 dX10_fault_0 rfl rfl ?_
  refine rx_if (fun hs3 => ?_) (fun hs3 => ?_)
  · refine rx_lookup C (off := 27) (tgt := 28) dX10_fault_1 (by decide) (by first | (rw [hs3]; done) | (rw [hs3]; decide)) (by decide) ?_
    refine rx_aload_n C 0 dX10_fault_28 rfl rfl ?_
    refine rx_getI C (k := 10) sx_0 fc_X10 (by decide) rfl lk_X10_77 dX10_fault_29 ?_
    exact rx_iret C dX10_fault_32
  refine rx_if (fun hs4 => ?_) (fun hs4 => ?_)
  · refine rx_lookup C (off := 32) (tgt := 33) dX10_fault_1 (by decide) (by first | (rw [hs4]; done) | (rw [hs4]; decide)) (by decide) ?_
    refine rx_aload_n C 0 dX10_fault_33 rfl rfl ?_
    refine rx_getI C (k := 11) sx_0 fc_X10 (by decide) rfl lk_X10_80 dX10_fault_34 ?_
    exact rx_iret C dX10_fault_37
  refine rx_lookup C (off := 37) (tgt := 38) dX10_fault_1 (by decide) (by show Op.lookupswitch.offset [(0, 27), (1, 32)] 37 _ = _; rw [lv_osw hs3 (by decide), lv_osw hs4 (by decide)]; try rfl) (by decide) ?_
  refine rx_iconst C dX10_fault_38 ic_m1 ?_
  exact rx_iret C dX10_fault_39
theorem m_X10_fault (l : Launch) {α : Nat → Nat} {D : va_G} {cA : Nat → ClassId} (hin : inj shX.length α) (x1 : Int32) (σ : St) : CT shX l yX10_fault cX10_fault 2 (some .int) 0 0 emI α D cA [.ref (α 0), .int x1] σ (f_X10_fault x1 σ) := ct_of rfl (Nat.le_of_ble_eq_true rfl) hin (fun z _ C => w_X10_fault_e C x1 σ)
set_option maxRecDepth 100000 in
set_option maxHeartbeats 4000000 in
theorem w_X10_has_e {α : Nat → Nat} {D : va_G} {cA : Nat → ClassId} {z : Cz} (C : CX shX α D cA z RX10 cX10_has 3 (some .int) 0 0) (x1 : Int32) (σ : St) : RX emI shX α D cA z 3 σ 0 [(0, .ref (α 0)), (1, .int x1)] [] (f_X10_has x1 σ) := by
  unfold f_X10_has
  refine rx_aload_n C 0 dX10_has_0 rfl rfl ?_
  refine rx_getC C (k := 4) sx_0 fc_X10 (by decide) 6 rfl lk_X10_53 dX10_has_1 ?_
  refine rx_getR C (k := 0) sx_6 fc_X2 (by decide) rfl lk_X10_106 dX10_has_4 ?_
  refine rx_ltr (fun g11 => ?_)
  refine rx_if (fun hg11 => ?_) (fun _ => rx_none)
  refine rx_astore_n C [(2, .ref (α g11)), (0, .ref (α 0)), (1, .int x1)] dX10_has_7 rfl (by decide) rfl ?_
  refine rx_iload_n C 2 dX10_has_8 rfl rfl ?_
  refine rx_if (fun hs12 => ?_) (fun hs12 => ?_)
  · refine rx_tableIn C (tgt := 60) (0 : Int32) hs12 dX10_has_9 (by decide) (by decide) rfl (by decide) ?_
    refine rx_aload_n C 0 dX10_has_60 rfl rfl ?_
    refine rx_getC C (k := 0) (ld_sh (landB_is hg11)) fc_X4 (by decide) (g11 + 1) rfl lk_X10_115 dX10_has_61 ?_
    refine rx_getI C (k := 4) (ro_sh (ld_1 (landB_is hg11))) fc_X8 (by decide) rfl lk_X10_119 dX10_has_64 ?_
    exact rx_iret C dX10_has_67
  refine rx_if (fun hs13 => ?_) (fun hs13 => ?_)
  · refine rx_tableIn C (tgt := 68) (1 : Int32) hs13 dX10_has_9 (by decide) (by decide) rfl (by decide) ?_
    refine rx_aload_n C 0 dX10_has_68 rfl rfl ?_
    refine rx_getC C (k := 1) (ld_sh (landB_is hg11)) fc_X4 (by decide) (g11 + 4) rfl lk_X10_124 dX10_has_69 ?_
    refine rx_getI C (k := 4) (ro_sh (ld_4 (landB_is hg11))) fc_X8 (by decide) rfl lk_X10_119 dX10_has_72 ?_
    exact rx_iret C dX10_has_75
  refine rx_if (fun hs14 => ?_) (fun hs14 => ?_)
  · refine rx_tableIn C (tgt := 76) (2 : Int32) hs14 dX10_has_9 (by decide) (by decide) rfl (by decide) ?_
    refine rx_aload_n C 0 dX10_has_76 rfl rfl ?_
    refine rx_getC C (k := 2) (ld_sh (landB_is hg11)) fc_X4 (by decide) (g11 + 7) rfl lk_X10_127 dX10_has_77 ?_
    refine rx_getI C (k := 4) (ro_sh (ld_7 (landB_is hg11))) fc_X8 (by decide) rfl lk_X10_119 dX10_has_80 ?_
    exact rx_iret C dX10_has_83
  refine rx_if (fun hs15 => ?_) (fun hs15 => ?_)
  · refine rx_tableIn C (tgt := 84) (3 : Int32) hs15 dX10_has_9 (by decide) (by decide) rfl (by decide) ?_
    refine rx_aload_n C 0 dX10_has_84 rfl rfl ?_
    refine rx_getC C (k := 3) (ld_sh (landB_is hg11)) fc_X4 (by decide) (g11 + 10) rfl lk_X10_130 dX10_has_85 ?_
    refine rx_getI C (k := 4) (ro_sh (ld_10 (landB_is hg11))) fc_X8 (by decide) rfl lk_X10_119 dX10_has_88 ?_
    exact rx_iret C dX10_has_91
  refine rx_if (fun hs16 => ?_) (fun hs16 => ?_)
  · refine rx_tableIn C (tgt := 92) (4 : Int32) hs16 dX10_has_9 (by decide) (by decide) rfl (by decide) ?_
    refine rx_aload_n C 0 dX10_has_92 rfl rfl ?_
    refine rx_getC C (k := 4) (ld_sh (landB_is hg11)) fc_X4 (by decide) (g11 + 13) rfl lk_X10_133 dX10_has_93 ?_
    refine rx_getI C (k := 4) (ro_sh (ld_13 (landB_is hg11))) fc_X8 (by decide) rfl lk_X10_119 dX10_has_96 ?_
    exact rx_iret C dX10_has_99
  refine rx_if (fun hs17 => ?_) (fun hs17 => ?_)
  · refine rx_tableIn C (tgt := 100) (5 : Int32) hs17 dX10_has_9 (by decide) (by decide) rfl (by decide) ?_
    refine rx_aload_n C 1 dX10_has_100 rfl rfl ?_
    refine rx_getC C (k := 4) sx_0 fc_X10 (by decide) 6 rfl lk_X10_53 dX10_has_101 ?_
    refine rx_getI C (k := 1) sx_6 fc_X2 (by decide) rfl lk_X10_136 dX10_has_104 ?_
    exact rx_iret C dX10_has_107
  refine rx_if (fun hs18 => ?_) (fun hs18 => ?_)
  · refine rx_tableIn C (tgt := 108) (6 : Int32) hs18 dX10_has_9 (by decide) (by decide) rfl (by decide) ?_
    refine rx_aload_n C 1 dX10_has_108 rfl rfl ?_
    refine rx_getC C (k := 5) sx_0 fc_X10 (by decide) 18 rfl lk_X10_62 dX10_has_109 ?_
    refine rx_getC C (k := 3) sx_18 fc_X1 (by decide) 21 rfl lk_X10_139 dX10_has_112 ?_
    refine rx_getI C (k := 4) sx_21 fc_X8 (by decide) rfl lk_X10_119 dX10_has_115 ?_
    exact rx_iret C dX10_has_118
  refine rx_if (fun hs19 => ?_) (fun hs19 => ?_)
  · refine rx_tableIn C (tgt := 119) (7 : Int32) hs19 dX10_has_9 (by decide) (by decide) rfl (by decide) ?_
    refine rx_aload_n C 1 dX10_has_119 rfl rfl ?_
    refine rx_getC C (k := 4) sx_0 fc_X10 (by decide) 6 rfl lk_X10_53 dX10_has_120 ?_
    refine rx_getI C (k := 3) sx_6 fc_X2 (by decide) rfl lk_X10_142 dX10_has_123 ?_
    exact rx_iret C dX10_has_126
  refine rx_if (fun hs20 => ?_) (fun hs20 => ?_)
  · refine rx_tableIn C (tgt := 127) (8 : Int32) hs20 dX10_has_9 (by decide) (by decide) rfl (by decide) ?_
    refine rx_aload_n C 1 dX10_has_127 rfl rfl ?_
    refine rx_getC C (k := 5) sx_0 fc_X10 (by decide) 18 rfl lk_X10_62 dX10_has_128 ?_
    refine rx_getC C (k := 2) sx_18 fc_X1 (by decide) 19 rfl lk_X10_145 dX10_has_131 ?_
    refine rx_getI C (k := 4) sx_19 fc_X7 (by decide) rfl lk_X10_149 dX10_has_134 ?_
    exact rx_iret C dX10_has_137
  refine rx_tableOut C (tgt := 138) dX10_has_9 (by have := lv_neT (a := 0) hs12 (by decide); have := lv_neT (a := 1) hs13 (by decide); have := lv_neT (a := 2) hs14 (by decide); have := lv_neT (a := 3) hs15 (by decide); have := lv_neT (a := 4) hs16 (by decide); have := lv_neT (a := 5) hs17 (by decide); have := lv_neT (a := 6) hs18 (by decide); have := lv_neT (a := 7) hs19 (by decide); have := lv_neT (a := 8) hs20 (by decide); omega) (by decide) ?_
  refine rx_iconst C dX10_has_138 ic_m1 ?_
  exact rx_iret C dX10_has_139
theorem m_X10_has (l : Launch) {α : Nat → Nat} {D : va_G} {cA : Nat → ClassId} (hin : inj shX.length α) (x1 : Int32) (σ : St) : CT shX l yX10_has cX10_has 3 (some .int) 0 0 emI α D cA [.ref (α 0), .int x1] σ (f_X10_has x1 σ) := ct_of rfl (Nat.le_of_ble_eq_true rfl) hin (fun z _ C => w_X10_has_e C x1 σ)
set_option maxRecDepth 100000 in
set_option maxHeartbeats 4000000 in
theorem w_X10_letter_107 {α : Nat → Nat} {D : va_G} {cA : Nat → ClassId} {z : Cz} (C : CX shX α D cA z RX10 cX10_letter 7 (some .int) 2 42) (s0 : Int32) (σ : St) : RX emI shX α D cA z 7 σ 107 [] [.int s0] (f_X10_letter_107 s0 σ) := by
  unfold f_X10_letter_107
  exact rx_iret C dX10_letter_107
set_option maxRecDepth 100000 in
set_option maxHeartbeats 4000000 in
theorem w_X10_letter_84 {α : Nat → Nat} {D : va_G} {cA : Nat → ClassId} {z : Cz} (C : CX shX α D cA z RX10 cX10_letter 7 (some .int) 2 42) (x3 : Int32) (x5 : Int32) (σ : St) : RX emI shX α D cA z 7 σ 84 [(3, .int x3), (5, .int x5)] [] (f_X10_letter_84 x3 x5 σ) := by
  unfold f_X10_letter_84
  refine rx_iload C 1 dX10_letter_84 rfl ?_
  refine rx_iload_n C 0 dX10_letter_86 rfl rfl ?_
  refine rx_callSi C [.int x5, .int x3] [] (m_X8_letterOf z.l C.inj x5 x3 σ) ms_X8_letterOf lk_X10_156 rfl rfl (Nat.le_of_ble_eq_true rfl) ⟨Nat.le_of_ble_eq_true rfl, Nat.le_of_ble_eq_true rfl⟩ dX10_letter_87 (fun q12 => ?_)
  refine rx_istore C [(6, .int q12.1), (3, .int x3), (5, .int x5)] dX10_letter_90 (by decide) rfl ?_
  refine rx_iload C 0 dX10_letter_92 rfl ?_
  refine rx_iconst C dX10_letter_94 ic_m1 ?_
  refine rx_icmp_ne C (tgt := 102) dX10_letter_95 (by decide) (fun _ => ?_) (fun _ => ?_)
  · refine rx_iconst C dX10_letter_98 ic_m1 ?_
    refine rx_goto C (tgt := 107) dX10_letter_99 (by decide) ?_
    exact RX.loc (w_X10_letter_107 C (-1 : Int32) q12.2) [] rfl
  · refine rx_iload C 0 dX10_letter_102 rfl ?_
    refine rx_bipush C dX10_letter_104 bp_97 ?_
    refine rx_iadd C dX10_letter_106 ?_
    exact RX.loc (w_X10_letter_107 C (q12.1 + (97 : Int32)) q12.2) [] rfl
set_option maxRecDepth 100000 in
set_option maxHeartbeats 4000000 in
theorem w_X10_letter_e {α : Nat → Nat} {D : va_G} {cA : Nat → ClassId} {z : Cz} (C : CX shX α D cA z RX10 cX10_letter 7 (some .int) 2 42) (x1 : Int32) (x2 : Int32) (x3 : Int32) (σ : St) : RX emI shX α D cA z 7 σ 0 [(0, .ref (α 0)), (1, .int x1), (2, .int x2), (3, .int x3)] [] (f_X10_letter x1 x2 x3 σ) := by
  unfold f_X10_letter
  refine rx_aload_n C 0 dX10_letter_0 rfl rfl ?_
  refine rx_getC C (k := 4) sx_0 fc_X10 (by decide) 6 rfl lk_X10_53 dX10_letter_1 ?_
  refine rx_getR C (k := 0) sx_6 fc_X2 (by decide) rfl lk_X10_106 dX10_letter_4 ?_
  refine rx_ltr (fun g9 => ?_)
  refine rx_if (fun hg9 => ?_) (fun _ => rx_none)
  refine rx_astore C [(4, .ref (α g9)), (0, .ref (α 0)), (1, .int x1), (2, .int x2), (3, .int x3)] dX10_letter_7 (by decide) rfl ?_
  refine rx_iconst C dX10_letter_9 ic_0 ?_
  refine rx_istore C [(5, .int (0 : Int32)), (4, .ref (α g9)), (0, .ref (α 0)), (1, .int x1), (2, .int x2), (3, .int x3)] dX10_letter_10 (by decide) rfl ?_
  refine rx_iload_n C 3 dX10_letter_12 rfl rfl ?_
  refine rx_if (fun hs10 => ?_) (fun hs10 => ?_)
  · refine rx_tableIn C (tgt := 40) (0 : Int32) hs10 dX10_letter_13 (by decide) (by decide) rfl (by decide) ?_
    refine rx_aload C 1 dX10_letter_40 rfl ?_
    refine rx_getC C (k := 0) (ld_sh (landB_is hg9)) fc_X4 (by decide) (g9 + 1) rfl lk_X10_115 dX10_letter_42 ?_
    refine rx_iload_n C 4 dX10_letter_45 rfl rfl ?_
    refine rx_callVi C [.int x2] [] (m_X8_name z.l C.inj (g9 + 1) (ld_1 (landB_is hg9)) x2 σ) mv_X8_name lk_X10_152 (ro_sh (ld_1 (landB_is hg9))) rfl rfl rfl (Nat.le_of_ble_eq_true rfl) ⟨Nat.le_of_ble_eq_true rfl, Nat.le_of_ble_eq_true rfl⟩ dX10_letter_46 (fun q11 => ?_)
    refine rx_istore C [(5, .int q11.1), (4, .ref (α g9)), (0, .ref (α 0)), (1, .int x1), (2, .int x2), (3, .int x3)] dX10_letter_49 (by decide) rfl ?_
    refine rx_goto C (tgt := 84) dX10_letter_51 (by decide) ?_
    exact RX.loc (w_X10_letter_84 C x3 q11.1 q11.2) [5, 0] rfl
  refine rx_if (fun hs13 => ?_) (fun hs13 => ?_)
  · refine rx_tableIn C (tgt := 54) (1 : Int32) hs13 dX10_letter_13 (by decide) (by decide) rfl (by decide) ?_
    refine rx_aload C 1 dX10_letter_54 rfl ?_
    refine rx_getC C (k := 1) (ld_sh (landB_is hg9)) fc_X4 (by decide) (g9 + 4) rfl lk_X10_124 dX10_letter_56 ?_
    refine rx_iload_n C 4 dX10_letter_59 rfl rfl ?_
    refine rx_callVi C [.int x2] [] (m_X8_name z.l C.inj (g9 + 4) (ld_4 (landB_is hg9)) x2 σ) mv_X8_name lk_X10_152 (ro_sh (ld_4 (landB_is hg9))) rfl rfl rfl (Nat.le_of_ble_eq_true rfl) ⟨Nat.le_of_ble_eq_true rfl, Nat.le_of_ble_eq_true rfl⟩ dX10_letter_60 (fun q14 => ?_)
    refine rx_istore C [(5, .int q14.1), (4, .ref (α g9)), (0, .ref (α 0)), (1, .int x1), (2, .int x2), (3, .int x3)] dX10_letter_63 (by decide) rfl ?_
    refine rx_goto C (tgt := 84) dX10_letter_65 (by decide) ?_
    exact RX.loc (w_X10_letter_84 C x3 q14.1 q14.2) [5, 0] rfl
  refine rx_if (fun hs15 => ?_) (fun hs15 => ?_)
  · refine rx_tableIn C (tgt := 68) (2 : Int32) hs15 dX10_letter_13 (by decide) (by decide) rfl (by decide) ?_
    refine rx_aload C 1 dX10_letter_68 rfl ?_
    refine rx_getC C (k := 4) (ld_sh (landB_is hg9)) fc_X4 (by decide) (g9 + 13) rfl lk_X10_133 dX10_letter_70 ?_
    refine rx_iload_n C 4 dX10_letter_73 rfl rfl ?_
    refine rx_callVi C [.int x2] [] (m_X8_name z.l C.inj (g9 + 13) (ld_13 (landB_is hg9)) x2 σ) mv_X8_name lk_X10_152 (ro_sh (ld_13 (landB_is hg9))) rfl rfl rfl (Nat.le_of_ble_eq_true rfl) ⟨Nat.le_of_ble_eq_true rfl, Nat.le_of_ble_eq_true rfl⟩ dX10_letter_74 (fun q16 => ?_)
    refine rx_istore C [(5, .int q16.1), (4, .ref (α g9)), (0, .ref (α 0)), (1, .int x1), (2, .int x2), (3, .int x3)] dX10_letter_77 (by decide) rfl ?_
    refine rx_goto C (tgt := 84) dX10_letter_79 (by decide) ?_
    exact RX.loc (w_X10_letter_84 C x3 q16.1 q16.2) [5, 0] rfl
  refine rx_tableOut C (tgt := 82) dX10_letter_13 (by have := lv_neT (a := 0) hs10 (by decide); have := lv_neT (a := 1) hs13 (by decide); have := lv_neT (a := 2) hs15 (by decide); omega) (by decide) ?_
  refine rx_iconst C dX10_letter_82 ic_m1 ?_
  exact rx_iret C dX10_letter_83
theorem m_X10_letter (l : Launch) {α : Nat → Nat} {D : va_G} {cA : Nat → ClassId} (hin : inj shX.length α) (x1 : Int32) (x2 : Int32) (x3 : Int32) (σ : St) : CT shX l yX10_letter cX10_letter 7 (some .int) 2 42 emI α D cA [.ref (α 0), .int x1, .int x2, .int x3] σ (f_X10_letter x1 x2 x3 σ) := ct_of rfl (Nat.le_of_ble_eq_true rfl) hin (fun z _ C => w_X10_letter_e C x1 x2 x3 σ)
set_option maxRecDepth 100000 in
set_option maxHeartbeats 4000000 in
theorem w_X10_letterIndex_22 {α : Nat → Nat} {D : va_G} {cA : Nat → ClassId} {z : Cz} (C : CX shX α D cA z RX10 cX10_letterIndex 2 (some .int) 0 0) (s0 : Int32) (σ : St) : RX emI shX α D cA z 2 σ 22 [] [.int s0] (f_X10_letterIndex_22 s0 σ) := by
  unfold f_X10_letterIndex_22
  exact rx_iret C dX10_letterIndex_22
set_option maxRecDepth 100000 in
set_option maxHeartbeats 4000000 in
theorem w_X10_letterIndex_17 {α : Nat → Nat} {D : va_G} {cA : Nat → ClassId} {z : Cz} (C : CX shX α D cA z RX10 cX10_letterIndex 2 (some .int) 0 0) (σ : St) : RX emI shX α D cA z 2 σ 17 [] [] (f_X10_letterIndex_17 σ) := by
  unfold f_X10_letterIndex_17
  refine rx_iconst C dX10_letterIndex_17 ic_m1 ?_
  refine rx_goto C (tgt := 22) dX10_letterIndex_18 (by decide) ?_
  exact RX.loc (w_X10_letterIndex_22 C (-1 : Int32) σ) [] rfl
set_option maxRecDepth 100000 in
set_option maxHeartbeats 4000000 in
theorem w_X10_letterIndex_e {α : Nat → Nat} {D : va_G} {cA : Nat → ClassId} {z : Cz} (C : CX shX α D cA z RX10 cX10_letterIndex 2 (some .int) 0 0) (x0 : Int32) (σ : St) : RX emI shX α D cA z 2 σ 0 [(0, .int x0)] [] (f_X10_letterIndex x0 σ) := by
  unfold f_X10_letterIndex
  refine rx_iload_n C 0 dX10_letterIndex_0 rfl rfl ?_
  refine rx_bipush C dX10_letterIndex_1 bp_97 ?_
  refine rx_isub C dX10_letterIndex_3 ?_
  refine rx_lti (fun w2 => ?_)
  refine rx_istore_n C [(1, .int w2), (0, .int x0)] dX10_letterIndex_4 rfl (by decide) rfl ?_
  refine rx_iload_n C 1 dX10_letterIndex_5 rfl rfl ?_
  refine rx_bipush C dX10_letterIndex_6 bp_97 ?_
  refine rx_icmp_lt C (tgt := 17) dX10_letterIndex_8 (by decide) (fun _ => ?_) (fun _ => ?_)
  · exact RX.loc (w_X10_letterIndex_17 C σ) [] rfl
  · refine rx_iload_n C 0 dX10_letterIndex_11 rfl rfl ?_
    refine rx_bipush C dX10_letterIndex_12 bp_26 ?_
    refine rx_icmp_lt C (tgt := 21) dX10_letterIndex_14 (by decide) (fun _ => ?_) (fun _ => ?_)
    · refine rx_iload_n C 0 dX10_letterIndex_21 rfl rfl ?_
      exact RX.loc (w_X10_letterIndex_22 C w2 σ) [] rfl
    · exact RX.loc (w_X10_letterIndex_17 C σ) [] rfl
theorem m_X10_letterIndex (l : Launch) {α : Nat → Nat} {D : va_G} {cA : Nat → ClassId} (hin : inj shX.length α) (x0 : Int32) (σ : St) : CT shX l yX10_letterIndex cX10_letterIndex 2 (some .int) 0 0 emI α D cA [.int x0] σ (f_X10_letterIndex x0 σ) := ct_of rfl (Nat.le_of_ble_eq_true rfl) hin (fun z _ C => w_X10_letterIndex_e C x0 σ)
set_option maxRecDepth 100000 in
set_option maxHeartbeats 4000000 in
theorem w_X10_ounces_e {α : Nat → Nat} {D : va_G} {cA : Nat → ClassId} {z : Cz} (C : CX shX α D cA z RX10 cX10_ounces 2 (some .int) 1 21) (x1 : Int32) (σ : St) : RX emI shX α D cA z 2 σ 0 [(0, .ref (α 0)), (1, .int x1)] [] (f_X10_ounces x1 σ) := by
  unfold f_X10_ounces
  refine rx_aload_n C 0 dX10_ounces_0 rfl rfl ?_
  refine rx_getC C (k := 4) sx_0 fc_X10 (by decide) 6 rfl lk_X10_53 dX10_ounces_1 ?_
  refine rx_getR C (k := 0) sx_6 fc_X2 (by decide) rfl lk_X10_106 dX10_ounces_4 ?_
  refine rx_ltr (fun g4 => ?_)
  refine rx_if (fun hg4 => ?_) (fun _ => rx_none)
  refine rx_iload_n C 1 dX10_ounces_7 rfl rfl ?_
  refine rx_callSi C [.int x1] [.ref (α g4)] (m_X10_letterIndex z.l C.inj x1 σ) ms_X10_letterIndex lk_X10_159 rfl rfl (Nat.le_of_ble_eq_true rfl) ⟨Nat.le_of_ble_eq_true rfl, Nat.le_of_ble_eq_true rfl⟩ dX10_ounces_8 (fun q5 => ?_)
  refine rx_callVi C [.int q5.1] [] (m_X4_ouncesOf z.l C.inj g4 (landB_is hg4) q5.1 q5.2) mv_X4_ouncesOf lk_X10_162 (ld_sh (landB_is hg4)) rfl rfl rfl (Nat.le_of_ble_eq_true rfl) ⟨Nat.le_of_ble_eq_true rfl, Nat.le_of_ble_eq_true rfl⟩ dX10_ounces_11 (fun q6 => ?_)
  exact rx_iret C dX10_ounces_14
theorem m_X10_ounces (l : Launch) {α : Nat → Nat} {D : va_G} {cA : Nat → ClassId} (hin : inj shX.length α) (x1 : Int32) (σ : St) : CT shX l yX10_ounces cX10_ounces 2 (some .int) 1 21 emI α D cA [.ref (α 0), .int x1] σ (f_X10_ounces x1 σ) := ct_of rfl (Nat.le_of_ble_eq_true rfl) hin (fun z _ C => w_X10_ounces_e C x1 σ)
set_option maxRecDepth 100000 in
set_option maxHeartbeats 4000000 in
theorem w_X10_title_e {α : Nat → Nat} {D : va_G} {cA : Nat → ClassId} {z : Cz} (C : CX shX α D cA z RX10 cX10_title 4 (some .int) 3 66) (x1 : Int32) (x2 : Int32) (σ : St) : RX emI shX α D cA z 4 σ 0 [(0, .ref (α 0)), (1, .int x1), (2, .int x2)] [] (f_X10_title x1 x2 σ) := by
  unfold f_X10_title
  refine rx_aload_n C 0 dX10_title_0 rfl rfl ?_
  refine rx_getC C (k := 4) sx_0 fc_X10 (by decide) 6 rfl lk_X10_53 dX10_title_1 ?_
  refine rx_getR C (k := 0) sx_6 fc_X2 (by decide) rfl lk_X10_106 dX10_title_4 ?_
  refine rx_ltr (fun g12 => ?_)
  refine rx_if (fun hg12 => ?_) (fun _ => rx_none)
  refine rx_astore_n C [(3, .ref (α g12)), (0, .ref (α 0)), (1, .int x1), (2, .int x2)] dX10_title_7 rfl (by decide) rfl ?_
  refine rx_aload_n C 0 dX10_title_8 rfl rfl ?_
  refine rx_getC C (k := 1) (ld_sh (landB_is hg12)) fc_X4 (by decide) (g12 + 4) rfl lk_X10_124 dX10_title_9 ?_
  refine rx_iload_n C 2 dX10_title_12 rfl rfl ?_
  refine rx_callVi C [.int x1] [] (m_X8_holds z.l C.inj (g12 + 4) (ld_4 (landB_is hg12)) x1 σ) mv_X8_holds lk_X10_165 (ro_sh (ld_4 (landB_is hg12))) rfl rfl rfl (Nat.le_of_ble_eq_true rfl) ⟨Nat.le_of_ble_eq_true rfl, Nat.le_of_ble_eq_true rfl⟩ dX10_title_13 (fun q13 => ?_)
  refine rx_if_ne C (tgt := 21) dX10_title_16 (by decide) (fun _ => ?_) (fun _ => ?_)
  · refine rx_iconst C dX10_title_19 ic_m1 ?_
    exact rx_iret C dX10_title_20
  · refine rx_iload_n C 3 dX10_title_21 rfl rfl ?_
    refine rx_if (fun hs14 => ?_) (fun hs14 => ?_)
    · refine rx_tableIn C (tgt := 52) (0 : Int32) hs14 dX10_title_22 (by decide) (by decide) rfl (by decide) ?_
      refine rx_aload_n C 0 dX10_title_52 rfl rfl ?_
      refine rx_iload_n C 2 dX10_title_53 rfl rfl ?_
      refine rx_callVi C [.int x1] [] (m_X4_titleOunces z.l C.inj g12 (landB_is hg12) x1 q13.2) mv_X4_titleOunces lk_X10_169 (ld_sh (landB_is hg12)) rfl rfl rfl (Nat.le_of_ble_eq_true rfl) ⟨Nat.le_of_ble_eq_true rfl, Nat.le_of_ble_eq_true rfl⟩ dX10_title_54 (fun q15 => ?_)
      exact rx_iret C dX10_title_57
    refine rx_if (fun hs16 => ?_) (fun hs16 => ?_)
    · refine rx_tableIn C (tgt := 58) (1 : Int32) hs16 dX10_title_22 (by decide) (by decide) rfl (by decide) ?_
      refine rx_aload_n C 0 dX10_title_58 rfl rfl ?_
      refine rx_getC C (k := 1) (ld_sh (landB_is hg12)) fc_X4 (by decide) (g12 + 4) rfl lk_X10_124 dX10_title_59 ?_
      refine rx_iload_n C 2 dX10_title_62 rfl rfl ?_
      refine rx_iconst C dX10_title_63 ic_0 ?_
      refine rx_callVi C [.int x1, .int (0 : Int32)] [] (m_X8_get z.l C.inj (g12 + 4) (ld_4 (landB_is hg12)) x1 (0 : Int32) q13.2) mv_X8_get lk_X10_172 (ro_sh (ld_4 (landB_is hg12))) rfl rfl rfl (Nat.le_of_ble_eq_true rfl) ⟨Nat.le_of_ble_eq_true rfl, Nat.le_of_ble_eq_true rfl⟩ dX10_title_64 (fun q17 => ?_)
      exact rx_iret C dX10_title_67
    refine rx_if (fun hs18 => ?_) (fun hs18 => ?_)
    · refine rx_tableIn C (tgt := 68) (2 : Int32) hs18 dX10_title_22 (by decide) (by decide) rfl (by decide) ?_
      refine rx_aload_n C 0 dX10_title_68 rfl rfl ?_
      refine rx_getC C (k := 1) (ld_sh (landB_is hg12)) fc_X4 (by decide) (g12 + 4) rfl lk_X10_124 dX10_title_69 ?_
      refine rx_iload_n C 2 dX10_title_72 rfl rfl ?_
      refine rx_callVi C [.int x1] [] (m_X8_name z.l C.inj (g12 + 4) (ld_4 (landB_is hg12)) x1 q13.2) mv_X8_name lk_X10_152 (ro_sh (ld_4 (landB_is hg12))) rfl rfl rfl (Nat.le_of_ble_eq_true rfl) ⟨Nat.le_of_ble_eq_true rfl, Nat.le_of_ble_eq_true rfl⟩ dX10_title_73 (fun q19 => ?_)
      refine rx_callSi C [.int q19.1] [] (m_X8_lengthOf z.l C.inj q19.1 q19.2) ms_X8_lengthOf lk_X10_175 rfl rfl (Nat.le_of_ble_eq_true rfl) ⟨Nat.le_of_ble_eq_true rfl, Nat.le_of_ble_eq_true rfl⟩ dX10_title_76 (fun q20 => ?_)
      exact rx_iret C dX10_title_79
    refine rx_if (fun hs21 => ?_) (fun hs21 => ?_)
    · refine rx_tableIn C (tgt := 80) (3 : Int32) hs21 dX10_title_22 (by decide) (by decide) rfl (by decide) ?_
      refine rx_aload_n C 1 dX10_title_80 rfl rfl ?_
      refine rx_getC C (k := 4) sx_0 fc_X10 (by decide) 6 rfl lk_X10_53 dX10_title_81 ?_
      refine rx_iload_n C 2 dX10_title_84 rfl rfl ?_
      refine rx_callVi C [.int x1] [] (m_X2_bearers z.l C.inj x1 q13.2) mv_X2_bearers lk_X10_178 sx_6 rfl rfl rfl (Nat.le_of_ble_eq_true rfl) ⟨Nat.le_of_ble_eq_true rfl, Nat.le_of_ble_eq_true rfl⟩ dX10_title_85 (fun q22 => ?_)
      exact rx_iret C dX10_title_88
    refine rx_tableOut C (tgt := 89) dX10_title_22 (by have := lv_neT (a := 0) hs14 (by decide); have := lv_neT (a := 1) hs16 (by decide); have := lv_neT (a := 2) hs18 (by decide); have := lv_neT (a := 3) hs21 (by decide); omega) (by decide) ?_
    refine rx_iconst C dX10_title_89 ic_m1 ?_
    exact rx_iret C dX10_title_90
theorem m_X10_title (l : Launch) {α : Nat → Nat} {D : va_G} {cA : Nat → ClassId} (hin : inj shX.length α) (x1 : Int32) (x2 : Int32) (σ : St) : CT shX l yX10_title cX10_title 4 (some .int) 3 66 emI α D cA [.ref (α 0), .int x1, .int x2] σ (f_X10_title x1 x2 σ) := ct_of rfl (Nat.le_of_ble_eq_true rfl) hin (fun z _ C => w_X10_title_e C x1 x2 σ)
set_option maxRecDepth 100000 in
set_option maxHeartbeats 4000000 in
theorem w_X10_bestOfAll_e {α : Nat → Nat} {D : va_G} {cA : Nat → ClassId} {z : Cz} (C : CX shX α D cA z RX10 cX10_bestOfAll 2 (some .int) 28 668) (x1 : Int32) (σ : St) : RX emI shX α D cA z 2 σ 0 [(0, .ref (α 0)), (1, .int x1)] [] (f_X10_bestOfAll x1 σ) := by
  unfold f_X10_bestOfAll
  refine rx_aload_n C 0 dX10_bestOfAll_0 rfl rfl ?_
  refine rx_getC C (k := 6) sx_0 fc_X10 (by decide) 24 rfl lk_X10_44 dX10_bestOfAll_1 ?_
  refine rx_aload_n C 0 dX10_bestOfAll_4 rfl rfl ?_
  refine rx_getC C (k := 4) sx_0 fc_X10 (by decide) 6 rfl lk_X10_53 dX10_bestOfAll_5 ?_
  refine rx_getR C (k := 0) sx_6 fc_X2 (by decide) rfl lk_X10_106 dX10_bestOfAll_8 ?_
  refine rx_ltr (fun g6 => ?_)
  refine rx_if (fun hg6 => ?_) (fun _ => rx_none)
  refine rx_aload_n C 0 dX10_bestOfAll_11 rfl rfl ?_
  refine rx_getC C (k := 4) sx_0 fc_X10 (by decide) 6 rfl lk_X10_53 dX10_bestOfAll_12 ?_
  refine rx_getR C (k := 0) sx_6 fc_X2 (by decide) rfl lk_X10_106 dX10_bestOfAll_15 ?_
  refine rx_ltr (fun g7 => ?_)
  refine rx_if (fun hg7 => ?_) (fun _ => rx_none)
  refine rx_callVi C [] [.ref (α g6), .ref (α 24)] (m_X4_allTitles z.l C.inj g7 (landB_is hg7) σ) mv_X4_allTitles lk_X10_211 (ld_sh (landB_is hg7)) rfl rfl rfl (Nat.le_of_ble_eq_true rfl) ⟨Nat.le_of_ble_eq_true rfl, Nat.le_of_ble_eq_true rfl⟩ dX10_bestOfAll_18 (fun q8 => ?_)
  refine rx_aload_n C 0 dX10_bestOfAll_21 rfl rfl ?_
  refine rx_getC C (k := 4) sx_0 fc_X10 (by decide) 6 rfl lk_X10_53 dX10_bestOfAll_22 ?_
  refine rx_iload_n C 1 dX10_bestOfAll_25 rfl rfl ?_
  refine rx_callVi C [.int x1] [.int q8.1, .ref (α g6), .ref (α 24)] (m_X2_limitOf z.l C.inj x1 q8.2) mv_X2_limitOf lk_X10_187 sx_6 rfl rfl rfl (Nat.le_of_ble_eq_true rfl) ⟨Nat.le_of_ble_eq_true rfl, Nat.le_of_ble_eq_true rfl⟩ dX10_bestOfAll_26 (fun q9 => ?_)
  refine rx_callVi C [.ref (α g6), .int q8.1, .int q9.1] [] (m_X9_bestSet z.l C.inj g6 (landB_is hg6) q8.1 q9.1 q9.2) mv_X9_bestSet lk_X10_215 sx_24 rfl rfl rfl (Nat.le_of_ble_eq_true rfl) ⟨Nat.le_of_ble_eq_true rfl, Nat.le_of_ble_eq_true rfl⟩ dX10_bestOfAll_29 (fun q10 => ?_)
  exact rx_iret C dX10_bestOfAll_32
theorem m_X10_bestOfAll (l : Launch) {α : Nat → Nat} {D : va_G} {cA : Nat → ClassId} (hin : inj shX.length α) (x1 : Int32) (σ : St) : CT shX l yX10_bestOfAll cX10_bestOfAll 2 (some .int) 28 668 emI α D cA [.ref (α 0), .int x1] σ (f_X10_bestOfAll x1 σ) := ct_of rfl (Nat.le_of_ble_eq_true rfl) hin (fun z _ C => w_X10_bestOfAll_e C x1 σ)
set_option maxRecDepth 100000 in
set_option maxHeartbeats 4000000 in
theorem w_X10_person_e {α : Nat → Nat} {D : va_G} {cA : Nat → ClassId} {z : Cz} (C : CX shX α D cA z RX10 cX10_person 3 (some .int) 29 689) (x1 : Int32) (x2 : Int32) (σ : St) : RX emI shX α D cA z 3 σ 0 [(0, .ref (α 0)), (1, .int x1), (2, .int x2)] [] (f_X10_person x1 x2 σ) := by
  unfold f_X10_person
  refine rx_aload_n C 0 dX10_person_0 rfl rfl ?_
  refine rx_getC C (k := 4) sx_0 fc_X10 (by decide) 6 rfl lk_X10_53 dX10_person_1 ?_
  refine rx_iload_n C 1 dX10_person_4 rfl rfl ?_
  refine rx_callVi C [.int x1] [] (m_X2_isPerson z.l C.inj x1 σ) mv_X2_isPerson lk_X10_181 sx_6 rfl rfl rfl (Nat.le_of_ble_eq_true rfl) ⟨Nat.le_of_ble_eq_true rfl, Nat.le_of_ble_eq_true rfl⟩ dX10_person_5 (fun q22 => ?_)
  refine rx_if_ne C (tgt := 13) dX10_person_8 (by decide) (fun _ => ?_) (fun _ => ?_)
  · refine rx_iconst C dX10_person_11 ic_m1 ?_
    exact rx_iret C dX10_person_12
  · refine rx_iload_n C 2 dX10_person_13 rfl rfl ?_
    refine rx_if (fun hs23 => ?_) (fun hs23 => ?_)
    · refine rx_tableIn C (tgt := 64) (0 : Int32) hs23 dX10_person_14 (by decide) (by decide) rfl (by decide) ?_
      refine rx_aload_n C 0 dX10_person_64 rfl rfl ?_
      refine rx_getC C (k := 4) sx_0 fc_X10 (by decide) 6 rfl lk_X10_53 dX10_person_65 ?_
      refine rx_iload_n C 1 dX10_person_68 rfl rfl ?_
      refine rx_callVi C [.int x1] [] (m_X2_ageOf z.l C.inj x1 q22.2) mv_X2_ageOf lk_X10_184 sx_6 rfl rfl rfl (Nat.le_of_ble_eq_true rfl) ⟨Nat.le_of_ble_eq_true rfl, Nat.le_of_ble_eq_true rfl⟩ dX10_person_69 (fun q24 => ?_)
      exact rx_iret C dX10_person_72
    refine rx_if (fun hs25 => ?_) (fun hs25 => ?_)
    · refine rx_tableIn C (tgt := 73) (1 : Int32) hs25 dX10_person_14 (by decide) (by decide) rfl (by decide) ?_
      refine rx_aload_n C 0 dX10_person_73 rfl rfl ?_
      refine rx_getC C (k := 4) sx_0 fc_X10 (by decide) 6 rfl lk_X10_53 dX10_person_74 ?_
      refine rx_iload_n C 1 dX10_person_77 rfl rfl ?_
      refine rx_callVi C [.int x1] [] (m_X2_limitOf z.l C.inj x1 q22.2) mv_X2_limitOf lk_X10_187 sx_6 rfl rfl rfl (Nat.le_of_ble_eq_true rfl) ⟨Nat.le_of_ble_eq_true rfl, Nat.le_of_ble_eq_true rfl⟩ dX10_person_78 (fun q26 => ?_)
      exact rx_iret C dX10_person_81
    refine rx_if (fun hs27 => ?_) (fun hs27 => ?_)
    · refine rx_tableIn C (tgt := 82) (2 : Int32) hs27 dX10_person_14 (by decide) (by decide) rfl (by decide) ?_
      refine rx_aload_n C 0 dX10_person_82 rfl rfl ?_
      refine rx_getC C (k := 4) sx_0 fc_X10 (by decide) 6 rfl lk_X10_53 dX10_person_83 ?_
      refine rx_iload_n C 1 dX10_person_86 rfl rfl ?_
      refine rx_callVi C [.int x1] [] (m_X2_loadOf z.l C.inj x1 q22.2) mv_X2_loadOf lk_X10_190 sx_6 rfl rfl rfl (Nat.le_of_ble_eq_true rfl) ⟨Nat.le_of_ble_eq_true rfl, Nat.le_of_ble_eq_true rfl⟩ dX10_person_87 (fun q28 => ?_)
      exact rx_iret C dX10_person_90
    refine rx_if (fun hs29 => ?_) (fun hs29 => ?_)
    · refine rx_tableIn C (tgt := 91) (3 : Int32) hs29 dX10_person_14 (by decide) (by decide) rfl (by decide) ?_
      refine rx_aload_n C 0 dX10_person_91 rfl rfl ?_
      refine rx_getC C (k := 4) sx_0 fc_X10 (by decide) 6 rfl lk_X10_53 dX10_person_92 ?_
      refine rx_iload_n C 1 dX10_person_95 rfl rfl ?_
      refine rx_callVi C [.int x1] [] (m_X2_honourOf z.l C.inj x1 q22.2) mv_X2_honourOf lk_X10_193 sx_6 rfl rfl rfl (Nat.le_of_ble_eq_true rfl) ⟨Nat.le_of_ble_eq_true rfl, Nat.le_of_ble_eq_true rfl⟩ dX10_person_96 (fun q30 => ?_)
      exact rx_iret C dX10_person_99
    refine rx_if (fun hs31 => ?_) (fun hs31 => ?_)
    · refine rx_tableIn C (tgt := 100) (4 : Int32) hs31 dX10_person_14 (by decide) (by decide) rfl (by decide) ?_
      refine rx_aload_n C 0 dX10_person_100 rfl rfl ?_
      refine rx_getC C (k := 4) sx_0 fc_X10 (by decide) 6 rfl lk_X10_53 dX10_person_101 ?_
      refine rx_iload_n C 1 dX10_person_104 rfl rfl ?_
      refine rx_callVi C [.int x1] [] (m_X2_titlesOf z.l C.inj x1 q22.2) mv_X2_titlesOf lk_X10_196 sx_6 rfl rfl rfl (Nat.le_of_ble_eq_true rfl) ⟨Nat.le_of_ble_eq_true rfl, Nat.le_of_ble_eq_true rfl⟩ dX10_person_105 (fun q32 => ?_)
      exact rx_iret C dX10_person_108
    refine rx_if (fun hs33 => ?_) (fun hs33 => ?_)
    · refine rx_tableIn C (tgt := 109) (5 : Int32) hs33 dX10_person_14 (by decide) (by decide) rfl (by decide) ?_
      refine rx_aload_n C 0 dX10_person_109 rfl rfl ?_
      refine rx_getC C (k := 4) sx_0 fc_X10 (by decide) 6 rfl lk_X10_53 dX10_person_110 ?_
      refine rx_iload_n C 1 dX10_person_113 rfl rfl ?_
      refine rx_callVi C [.int x1] [] (m_X2_looseLetters z.l C.inj x1 q22.2) mv_X2_looseLetters lk_X10_199 sx_6 rfl rfl rfl (Nat.le_of_ble_eq_true rfl) ⟨Nat.le_of_ble_eq_true rfl, Nat.le_of_ble_eq_true rfl⟩ dX10_person_114 (fun q34 => ?_)
      exact rx_iret C dX10_person_117
    refine rx_if (fun hs35 => ?_) (fun hs35 => ?_)
    · refine rx_tableIn C (tgt := 118) (6 : Int32) hs35 dX10_person_14 (by decide) (by decide) rfl (by decide) ?_
      refine rx_aload_n C 0 dX10_person_118 rfl rfl ?_
      refine rx_iload_n C 1 dX10_person_119 rfl rfl ?_
      refine rx_callVi C [.int x1] [] (m_X10_bestOfAll z.l C.inj x1 q22.2) mv_X10_bestOfAll lk_X10_202 sx_0 rfl rfl rfl (Nat.le_of_ble_eq_true rfl) ⟨Nat.le_of_ble_eq_true rfl, Nat.le_of_ble_eq_true rfl⟩ dX10_person_120 (fun q36 => ?_)
      exact rx_iret C dX10_person_123
    refine rx_if (fun hs37 => ?_) (fun hs37 => ?_)
    · refine rx_tableIn C (tgt := 124) (7 : Int32) hs37 dX10_person_14 (by decide) (by decide) rfl (by decide) ?_
      refine rx_aload_n C 0 dX10_person_124 rfl rfl ?_
      refine rx_getC C (k := 4) sx_0 fc_X10 (by decide) 6 rfl lk_X10_53 dX10_person_125 ?_
      refine rx_getR C (k := 0) sx_6 fc_X2 (by decide) rfl lk_X10_106 dX10_person_128 ?_
      refine rx_ltr (fun g38 => ?_)
      refine rx_if (fun hg38 => ?_) (fun _ => rx_none)
      refine rx_aload_n C 0 dX10_person_131 rfl rfl ?_
      refine rx_iload_n C 1 dX10_person_132 rfl rfl ?_
      refine rx_callVi C [.int x1] [.ref (α g38)] (m_X10_bestOfAll z.l C.inj x1 q22.2) mv_X10_bestOfAll lk_X10_202 sx_0 rfl rfl rfl (Nat.le_of_ble_eq_true rfl) ⟨Nat.le_of_ble_eq_true rfl, Nat.le_of_ble_eq_true rfl⟩ dX10_person_133 (fun q39 => ?_)
      refine rx_callVi C [.int q39.1] [] (m_X4_honourOfSet z.l C.inj g38 (landB_is hg38) q39.1 q39.2) mv_X4_honourOfSet lk_X10_205 (ld_sh (landB_is hg38)) rfl rfl rfl (Nat.le_of_ble_eq_true rfl) ⟨Nat.le_of_ble_eq_true rfl, Nat.le_of_ble_eq_true rfl⟩ dX10_person_136 (fun q40 => ?_)
      exact rx_iret C dX10_person_139
    refine rx_if (fun hs41 => ?_) (fun hs41 => ?_)
    · refine rx_tableIn C (tgt := 140) (8 : Int32) hs41 dX10_person_14 (by decide) (by decide) rfl (by decide) ?_
      refine rx_aload_n C 0 dX10_person_140 rfl rfl ?_
      refine rx_getC C (k := 4) sx_0 fc_X10 (by decide) 6 rfl lk_X10_53 dX10_person_141 ?_
      refine rx_iload_n C 1 dX10_person_144 rfl rfl ?_
      refine rx_callVi C [.int x1] [] (m_X2_calledBy z.l C.inj x1 q22.2) mv_X2_calledBy lk_X10_208 sx_6 rfl rfl rfl (Nat.le_of_ble_eq_true rfl) ⟨Nat.le_of_ble_eq_true rfl, Nat.le_of_ble_eq_true rfl⟩ dX10_person_145 (fun q42 => ?_)
      exact rx_iret C dX10_person_148
    refine rx_tableOut C (tgt := 149) dX10_person_14 (by have := lv_neT (a := 0) hs23 (by decide); have := lv_neT (a := 1) hs25 (by decide); have := lv_neT (a := 2) hs27 (by decide); have := lv_neT (a := 3) hs29 (by decide); have := lv_neT (a := 4) hs31 (by decide); have := lv_neT (a := 5) hs33 (by decide); have := lv_neT (a := 6) hs35 (by decide); have := lv_neT (a := 7) hs37 (by decide); have := lv_neT (a := 8) hs41 (by decide); omega) (by decide) ?_
    refine rx_iconst C dX10_person_149 ic_m1 ?_
    exact rx_iret C dX10_person_150
theorem m_X10_person (l : Launch) {α : Nat → Nat} {D : va_G} {cA : Nat → ClassId} (hin : inj shX.length α) (x1 : Int32) (x2 : Int32) (σ : St) : CT shX l yX10_person cX10_person 3 (some .int) 29 689 emI α D cA [.ref (α 0), .int x1, .int x2] σ (f_X10_person x1 x2 σ) := ct_of rfl (Nat.le_of_ble_eq_true rfl) hin (fun z _ C => w_X10_person_e C x1 x2 σ)
set_option maxRecDepth 100000 in
set_option maxHeartbeats 4000000 in
theorem w_X10_loose_26 {α : Nat → Nat} {D : va_G} {cA : Nat → ClassId} {z : Cz} (C : CX shX α D cA z RX10 cX10_loose 4 (some .int) 2 42) (σ : St) : RX emI shX α D cA z 4 σ 26 [] [] (f_X10_loose_26 σ) := by
  unfold f_X10_loose_26
  refine rx_iconst C dX10_loose_26 ic_m1 ?_
  exact rx_iret C dX10_loose_27
set_option maxRecDepth 100000 in
set_option maxHeartbeats 4000000 in
theorem w_X10_loose_43 {α : Nat → Nat} {D : va_G} {cA : Nat → ClassId} {z : Cz} (C : CX shX α D cA z RX10 cX10_loose 4 (some .int) 2 42) (x3 : Int32) (s1 : Int32) (σ : St) : RX emI shX α D cA z 4 σ 43 [(3, .int x3)] [.int s1, .ref (α 6)] (f_X10_loose_43 x3 s1 σ) := by
  unfold f_X10_loose_43
  refine rx_iload_n C 0 dX10_loose_43 rfl rfl ?_
  refine rx_callVi C [.int s1, .int x3] [] (m_X2_count z.l C.inj s1 x3 σ) mv_X2_count lk_X10_219 sx_6 rfl rfl rfl (Nat.le_of_ble_eq_true rfl) ⟨Nat.le_of_ble_eq_true rfl, Nat.le_of_ble_eq_true rfl⟩ dX10_loose_44 (fun q5 => ?_)
  exact rx_iret C dX10_loose_47
set_option maxRecDepth 100000 in
set_option maxHeartbeats 4000000 in
theorem w_X10_loose_28 {α : Nat → Nat} {D : va_G} {cA : Nat → ClassId} {z : Cz} (C : CX shX α D cA z RX10 cX10_loose 4 (some .int) 2 42) (x1 : Int32) (x3 : Int32) (σ : St) : RX emI shX α D cA z 4 σ 28 [(0, .ref (α 0)), (1, .int x1), (3, .int x3)] [] (f_X10_loose_28 x1 x3 σ) := by
  unfold f_X10_loose_28
  refine rx_aload_n C 0 dX10_loose_28 rfl rfl ?_
  refine rx_getC C (k := 4) sx_0 fc_X10 (by decide) 6 rfl lk_X10_53 dX10_loose_29 ?_
  refine rx_iload_n C 1 dX10_loose_32 rfl rfl ?_
  refine rx_iconst C dX10_loose_33 ic_m1 ?_
  refine rx_icmp_ne C (tgt := 42) dX10_loose_34 (by decide) (fun _ => ?_) (fun _ => ?_)
  · refine rx_bipush C dX10_loose_37 bp_8 ?_
    refine rx_goto C (tgt := 43) dX10_loose_39 (by decide) ?_
    exact RX.loc (w_X10_loose_43 C x3 (8 : Int32) σ) [2] rfl
  · refine rx_iload_n C 1 dX10_loose_42 rfl rfl ?_
    exact RX.loc (w_X10_loose_43 C x3 x1 σ) [2] rfl
set_option maxRecDepth 100000 in
set_option maxHeartbeats 4000000 in
theorem w_X10_loose_e {α : Nat → Nat} {D : va_G} {cA : Nat → ClassId} {z : Cz} (C : CX shX α D cA z RX10 cX10_loose 4 (some .int) 2 42) (x1 : Int32) (x2 : Int32) (σ : St) : RX emI shX α D cA z 4 σ 0 [(0, .ref (α 0)), (1, .int x1), (2, .int x2)] [] (f_X10_loose x1 x2 σ) := by
  unfold f_X10_loose
  refine rx_iload_n C 2 dX10_loose_0 rfl rfl ?_
  refine rx_callSi C [.int x2] [] (m_X10_letterIndex z.l C.inj x2 σ) ms_X10_letterIndex lk_X10_159 rfl rfl (Nat.le_of_ble_eq_true rfl) ⟨Nat.le_of_ble_eq_true rfl, Nat.le_of_ble_eq_true rfl⟩ dX10_loose_1 (fun q4 => ?_)
  refine rx_istore_n C [(3, .int q4.1), (0, .ref (α 0)), (1, .int x1), (2, .int x2)] dX10_loose_4 rfl (by decide) rfl ?_
  refine rx_iload_n C 0 dX10_loose_5 rfl rfl ?_
  refine rx_iconst C dX10_loose_6 ic_m1 ?_
  refine rx_icmp_eq C (tgt := 26) dX10_loose_7 (by decide) (fun _ => ?_) (fun _ => ?_)
  · exact RX.loc (w_X10_loose_26 C q4.2) [] rfl
  · refine rx_iload_n C 2 dX10_loose_10 rfl rfl ?_
    refine rx_iconst C dX10_loose_11 ic_m1 ?_
    refine rx_icmp_eq C (tgt := 28) dX10_loose_12 (by decide) (fun _ => ?_) (fun _ => ?_)
    · exact RX.loc (w_X10_loose_28 C x1 q4.1 q4.2) [1, 2, 0] rfl
    · refine rx_aload_n C 1 dX10_loose_15 rfl rfl ?_
      refine rx_getC C (k := 4) sx_0 fc_X10 (by decide) 6 rfl lk_X10_53 dX10_loose_16 ?_
      refine rx_iload_n C 2 dX10_loose_19 rfl rfl ?_
      refine rx_callVi C [.int x1] [] (m_X2_isPerson z.l C.inj x1 q4.2) mv_X2_isPerson lk_X10_181 sx_6 rfl rfl rfl (Nat.le_of_ble_eq_true rfl) ⟨Nat.le_of_ble_eq_true rfl, Nat.le_of_ble_eq_true rfl⟩ dX10_loose_20 (fun q6 => ?_)
      refine rx_if_ne C (tgt := 28) dX10_loose_23 (by decide) (fun _ => ?_) (fun _ => ?_)
      · exact RX.loc (w_X10_loose_26 C q6.2) [] rfl
      · exact RX.loc (w_X10_loose_28 C x1 q4.1 q6.2) [1, 2, 0] rfl
theorem m_X10_loose (l : Launch) {α : Nat → Nat} {D : va_G} {cA : Nat → ClassId} (hin : inj shX.length α) (x1 : Int32) (x2 : Int32) (σ : St) : CT shX l yX10_loose cX10_loose 4 (some .int) 2 42 emI α D cA [.ref (α 0), .int x1, .int x2] σ (f_X10_loose x1 x2 σ) := ct_of rfl (Nat.le_of_ble_eq_true rfl) hin (fun z _ C => w_X10_loose_e C x1 x2 σ)
set_option maxRecDepth 100000 in
set_option maxHeartbeats 4000000 in
theorem w_X10_lead_e {α : Nat → Nat} {D : va_G} {cA : Nat → ClassId} {z : Cz} (C : CX shX α D cA z RX10 cX10_lead 2 (some .int) 4 88) (x1 : Int32) (σ : St) : RX emI shX α D cA z 2 σ 0 [(0, .ref (α 0)), (1, .int x1)] [] (f_X10_lead x1 σ) := by
  unfold f_X10_lead
  refine rx_iload_n C 1 dX10_lead_0 rfl rfl ?_
  refine rx_if (fun hs12 => ?_) (fun hs12 => ?_)
  · refine rx_tableIn C (tgt := 36) (0 : Int32) hs12 dX10_lead_1 (by decide) (by decide) rfl (by decide) ?_
    refine rx_aload_n C 0 dX10_lead_36 rfl rfl ?_
    refine rx_getC C (k := 4) sx_0 fc_X10 (by decide) 6 rfl lk_X10_53 dX10_lead_37 ?_
    refine rx_callVi C [] [] (m_X2_coatOunces z.l C.inj σ) mv_X2_coatOunces lk_X10_222 sx_6 rfl rfl rfl (Nat.le_of_ble_eq_true rfl) ⟨Nat.le_of_ble_eq_true rfl, Nat.le_of_ble_eq_true rfl⟩ dX10_lead_40 (fun q13 => ?_)
    exact rx_iret C dX10_lead_43
  refine rx_if (fun hs14 => ?_) (fun hs14 => ?_)
  · refine rx_tableIn C (tgt := 44) (1 : Int32) hs14 dX10_lead_1 (by decide) (by decide) rfl (by decide) ?_
    refine rx_aload_n C 0 dX10_lead_44 rfl rfl ?_
    refine rx_getC C (k := 4) sx_0 fc_X10 (by decide) 6 rfl lk_X10_53 dX10_lead_45 ?_
    refine rx_bipush C dX10_lead_48 bp_8 ?_
    refine rx_callVi C [.int (8 : Int32)] [] (m_X2_looseOunces z.l C.inj (8 : Int32) σ) mv_X2_looseOunces lk_X10_225 sx_6 rfl rfl rfl (Nat.le_of_ble_eq_true rfl) ⟨Nat.le_of_ble_eq_true rfl, Nat.le_of_ble_eq_true rfl⟩ dX10_lead_50 (fun q15 => ?_)
    exact rx_iret C dX10_lead_53
  refine rx_if (fun hs16 => ?_) (fun hs16 => ?_)
  · refine rx_tableIn C (tgt := 54) (2 : Int32) hs16 dX10_lead_1 (by decide) (by decide) rfl (by decide) ?_
    refine rx_aload_n C 0 dX10_lead_54 rfl rfl ?_
    refine rx_getC C (k := 4) sx_0 fc_X10 (by decide) 6 rfl lk_X10_53 dX10_lead_55 ?_
    refine rx_getI C (k := 2) sx_6 fc_X2 (by decide) rfl lk_X10_228 dX10_lead_58 ?_
    exact rx_iret C dX10_lead_61
  refine rx_if (fun hs17 => ?_) (fun hs17 => ?_)
  · refine rx_tableIn C (tgt := 62) (3 : Int32) hs17 dX10_lead_1 (by decide) (by decide) rfl (by decide) ?_
    refine rx_aload_n C 0 dX10_lead_62 rfl rfl ?_
    refine rx_getC C (k := 4) sx_0 fc_X10 (by decide) 6 rfl lk_X10_53 dX10_lead_63 ?_
    refine rx_callVi C [] [] (m_X2_bulletOunces z.l C.inj σ) mv_X2_bulletOunces lk_X10_231 sx_6 rfl rfl rfl (Nat.le_of_ble_eq_true rfl) ⟨Nat.le_of_ble_eq_true rfl, Nat.le_of_ble_eq_true rfl⟩ dX10_lead_66 (fun q18 => ?_)
    exact rx_iret C dX10_lead_69
  refine rx_if (fun hs19 => ?_) (fun hs19 => ?_)
  · refine rx_tableIn C (tgt := 70) (4 : Int32) hs19 dX10_lead_1 (by decide) (by decide) rfl (by decide) ?_
    refine rx_aload_n C 0 dX10_lead_70 rfl rfl ?_
    refine rx_getC C (k := 4) sx_0 fc_X10 (by decide) 6 rfl lk_X10_53 dX10_lead_71 ?_
    refine rx_callVi C [] [] (m_X2_coatOunces z.l C.inj σ) mv_X2_coatOunces lk_X10_222 sx_6 rfl rfl rfl (Nat.le_of_ble_eq_true rfl) ⟨Nat.le_of_ble_eq_true rfl, Nat.le_of_ble_eq_true rfl⟩ dX10_lead_74 (fun q20 => ?_)
    refine rx_aload_n C 0 dX10_lead_77 rfl rfl ?_
    refine rx_getC C (k := 4) sx_0 fc_X10 (by decide) 6 rfl lk_X10_53 dX10_lead_78 ?_
    refine rx_bipush C dX10_lead_81 bp_8 ?_
    refine rx_callVi C [.int (8 : Int32)] [.int q20.1] (m_X2_looseOunces z.l C.inj (8 : Int32) q20.2) mv_X2_looseOunces lk_X10_225 sx_6 rfl rfl rfl (Nat.le_of_ble_eq_true rfl) ⟨Nat.le_of_ble_eq_true rfl, Nat.le_of_ble_eq_true rfl⟩ dX10_lead_83 (fun q21 => ?_)
    refine rx_iadd C dX10_lead_86 ?_
    refine rx_aload_n C 0 dX10_lead_87 rfl rfl ?_
    refine rx_getC C (k := 4) sx_0 fc_X10 (by decide) 6 rfl lk_X10_53 dX10_lead_88 ?_
    refine rx_getI C (k := 2) sx_6 fc_X2 (by decide) rfl lk_X10_228 dX10_lead_91 ?_
    refine rx_iadd C dX10_lead_94 ?_
    refine rx_aload_n C 0 dX10_lead_95 rfl rfl ?_
    refine rx_getC C (k := 4) sx_0 fc_X10 (by decide) 6 rfl lk_X10_53 dX10_lead_96 ?_
    refine rx_callVi C [] [.int ((q20.1 + q21.1) + (gI q21.2 6 2))] (m_X2_bulletOunces z.l C.inj q21.2) mv_X2_bulletOunces lk_X10_231 sx_6 rfl rfl rfl (Nat.le_of_ble_eq_true rfl) ⟨Nat.le_of_ble_eq_true rfl, Nat.le_of_ble_eq_true rfl⟩ dX10_lead_99 (fun q22 => ?_)
    refine rx_iadd C dX10_lead_102 ?_
    exact rx_iret C dX10_lead_103
  refine rx_tableOut C (tgt := 104) dX10_lead_1 (by have := lv_neT (a := 0) hs12 (by decide); have := lv_neT (a := 1) hs14 (by decide); have := lv_neT (a := 2) hs16 (by decide); have := lv_neT (a := 3) hs17 (by decide); have := lv_neT (a := 4) hs19 (by decide); omega) (by decide) ?_
  refine rx_iconst C dX10_lead_104 ic_m1 ?_
  exact rx_iret C dX10_lead_105
theorem m_X10_lead (l : Launch) {α : Nat → Nat} {D : va_G} {cA : Nat → ClassId} (hin : inj shX.length α) (x1 : Int32) (σ : St) : CT shX l yX10_lead cX10_lead 2 (some .int) 4 88 emI α D cA [.ref (α 0), .int x1] σ (f_X10_lead x1 σ) := ct_of rfl (Nat.le_of_ble_eq_true rfl) hin (fun z _ C => w_X10_lead_e C x1 σ)
set_option maxRecDepth 100000 in
set_option maxHeartbeats 4000000 in
theorem w_X10_gain_e {α : Nat → Nat} {D : va_G} {cA : Nat → ClassId} {z : Cz} (C : CX shX α D cA z RX10 cX10_gain 3 (some .int) 7 173) (x1 : Int32) (x2 : Int32) (σ : St) : RX emI shX α D cA z 3 σ 0 [(0, .ref (α 0)), (1, .int x1), (2, .int x2)] [] (f_X10_gain x1 x2 σ) := by
  unfold f_X10_gain
  refine rx_aload_n C 0 dX10_gain_0 rfl rfl ?_
  refine rx_aload_n C 0 dX10_gain_1 rfl rfl ?_
  refine rx_getC C (k := 5) sx_0 fc_X10 (by decide) 18 rfl lk_X10_62 dX10_gain_2 ?_
  refine rx_iload_n C 1 dX10_gain_5 rfl rfl ?_
  refine rx_iload_n C 2 dX10_gain_6 rfl rfl ?_
  refine rx_callVi C [.int x1, .int x2] [.ref (α 0)] (m_X1_makeTitle z.l C.inj x1 x2 σ) mv_X1_makeTitle lk_X10_234 sx_18 rfl rfl rfl (Nat.le_of_ble_eq_true rfl) ⟨Nat.le_of_ble_eq_true rfl, Nat.le_of_ble_eq_true rfl⟩ dX10_gain_7 (fun q3 => ?_)
  refine rx_iconst C dX10_gain_10 ic_2 ?_
  refine rx_callVi C [.int q3.1, .int (2 : Int32)] [] (m_X10_counted z.l C.inj q3.1 (2 : Int32) q3.2) mv_X10_counted lk_X10_83 sx_0 rfl rfl rfl (Nat.le_of_ble_eq_true rfl) ⟨Nat.le_of_ble_eq_true rfl, Nat.le_of_ble_eq_true rfl⟩ dX10_gain_11 (fun q4 => ?_)
  exact rx_iret C dX10_gain_14
theorem m_X10_gain (l : Launch) {α : Nat → Nat} {D : va_G} {cA : Nat → ClassId} (hin : inj shX.length α) (x1 : Int32) (x2 : Int32) (σ : St) : CT shX l yX10_gain cX10_gain 3 (some .int) 7 173 emI α D cA [.ref (α 0), .int x1, .int x2] σ (f_X10_gain x1 x2 σ) := ct_of rfl (Nat.le_of_ble_eq_true rfl) hin (fun z _ C => w_X10_gain_e C x1 x2 σ)
set_option maxRecDepth 100000 in
set_option maxHeartbeats 4000000 in
theorem w_X10_shed_e {α : Nat → Nat} {D : va_G} {cA : Nat → ClassId} {z : Cz} (C : CX shX α D cA z RX10 cX10_shed 3 (some .int) 4 90) (x1 : Int32) (x2 : Int32) (σ : St) : RX emI shX α D cA z 3 σ 0 [(0, .ref (α 0)), (1, .int x1), (2, .int x2)] [] (f_X10_shed x1 x2 σ) := by
  unfold f_X10_shed
  refine rx_aload_n C 0 dX10_shed_0 rfl rfl ?_
  refine rx_aload_n C 0 dX10_shed_1 rfl rfl ?_
  refine rx_getC C (k := 5) sx_0 fc_X10 (by decide) 18 rfl lk_X10_62 dX10_shed_2 ?_
  refine rx_iload_n C 1 dX10_shed_5 rfl rfl ?_
  refine rx_iload_n C 2 dX10_shed_6 rfl rfl ?_
  refine rx_callVi C [.int x1, .int x2] [.ref (α 0)] (m_X1_dropTitle z.l C.inj x1 x2 σ) mv_X1_dropTitle lk_X10_237 sx_18 rfl rfl rfl (Nat.le_of_ble_eq_true rfl) ⟨Nat.le_of_ble_eq_true rfl, Nat.le_of_ble_eq_true rfl⟩ dX10_shed_7 (fun q3 => ?_)
  refine rx_iconst C dX10_shed_10 ic_2 ?_
  refine rx_callVi C [.int q3.1, .int (2 : Int32)] [] (m_X10_counted z.l C.inj q3.1 (2 : Int32) q3.2) mv_X10_counted lk_X10_83 sx_0 rfl rfl rfl (Nat.le_of_ble_eq_true rfl) ⟨Nat.le_of_ble_eq_true rfl, Nat.le_of_ble_eq_true rfl⟩ dX10_shed_11 (fun q4 => ?_)
  exact rx_iret C dX10_shed_14
theorem m_X10_shed (l : Launch) {α : Nat → Nat} {D : va_G} {cA : Nat → ClassId} (hin : inj shX.length α) (x1 : Int32) (x2 : Int32) (σ : St) : CT shX l yX10_shed cX10_shed 3 (some .int) 4 90 emI α D cA [.ref (α 0), .int x1, .int x2] σ (f_X10_shed x1 x2 σ) := ct_of rfl (Nat.le_of_ble_eq_true rfl) hin (fun z _ C => w_X10_shed_e C x1 x2 σ)
set_option maxRecDepth 100000 in
set_option maxHeartbeats 4000000 in
theorem w_X10_steal_e {α : Nat → Nat} {D : va_G} {cA : Nat → ClassId} {z : Cz} (C : CX shX α D cA z RX10 cX10_steal 4 (some .boolean) 4 92) (x1 : Int32) (x2 : Int32) (x3 : Int32) (σ : St) : RX emI shX α D cA z 4 σ 0 [(0, .ref (α 0)), (1, .int x1), (2, .int x2), (3, .int x3)] [] (f_X10_steal x1 x2 x3 σ) := by
  unfold f_X10_steal
  refine rx_aload_n C 0 dX10_steal_0 rfl rfl ?_
  refine rx_aload_n C 0 dX10_steal_1 rfl rfl ?_
  refine rx_getC C (k := 5) sx_0 fc_X10 (by decide) 18 rfl lk_X10_62 dX10_steal_2 ?_
  refine rx_iload_n C 1 dX10_steal_5 rfl rfl ?_
  refine rx_iload_n C 2 dX10_steal_6 rfl rfl ?_
  refine rx_iload_n C 3 dX10_steal_7 rfl rfl ?_
  refine rx_callSi C [.int x3] [.int x2, .int x1, .ref (α 18), .ref (α 0)] (m_X10_letterIndex z.l C.inj x3 σ) ms_X10_letterIndex lk_X10_159 rfl rfl (Nat.le_of_ble_eq_true rfl) ⟨Nat.le_of_ble_eq_true rfl, Nat.le_of_ble_eq_true rfl⟩ dX10_steal_8 (fun q4 => ?_)
  refine rx_callVi C [.int x1, .int x2, .int q4.1] [.ref (α 0)] (m_X1_takeLetter z.l C.inj x1 x2 q4.1 q4.2) mv_X1_takeLetter lk_X10_240 sx_18 rfl rfl rfl (Nat.le_of_ble_eq_true rfl) ⟨Nat.le_of_ble_eq_true rfl, Nat.le_of_ble_eq_true rfl⟩ dX10_steal_11 (fun q5 => ?_)
  refine rx_iconst C dX10_steal_14 ic_2 ?_
  refine rx_callVi C [.int q5.1, .int (2 : Int32)] [] (m_X10_granted z.l C.inj q5.1 (2 : Int32) q5.2) mv_X10_granted lk_X10_91 sx_0 rfl rfl rfl (Nat.le_of_ble_eq_true rfl) ⟨Nat.le_of_ble_eq_true rfl, Nat.le_of_ble_eq_true rfl⟩ dX10_steal_15 (fun q6 => ?_)
  exact rx_zret C dX10_steal_18
theorem m_X10_steal (l : Launch) {α : Nat → Nat} {D : va_G} {cA : Nat → ClassId} (hin : inj shX.length α) (x1 : Int32) (x2 : Int32) (x3 : Int32) (σ : St) : CT shX l yX10_steal cX10_steal 4 (some .boolean) 4 92 emI α D cA [.ref (α 0), .int x1, .int x2, .int x3] σ (f_X10_steal x1 x2 x3 σ) := ct_of rfl (Nat.le_of_ble_eq_true rfl) hin (fun z _ C => w_X10_steal_e C x1 x2 x3 σ)
set_option maxRecDepth 100000 in
set_option maxHeartbeats 4000000 in
theorem w_X10_trade_e {α : Nat → Nat} {D : va_G} {cA : Nat → ClassId} {z : Cz} (C : CX shX α D cA z RX10 cX10_trade 7 (some .boolean) 4 92) (x1 : Int32) (x2 : Int32) (x3 : Int32) (x4 : Int32) (σ : St) : RX emI shX α D cA z 7 σ 0 [(0, .ref (α 0)), (1, .int x1), (2, .int x2), (3, .int x3), (4, .int x4)] [] (f_X10_trade x1 x2 x3 x4 σ) := by
  unfold f_X10_trade
  refine rx_iload_n C 2 dX10_trade_0 rfl rfl ?_
  refine rx_callSi C [.int x2] [] (m_X10_letterIndex z.l C.inj x2 σ) ms_X10_letterIndex lk_X10_159 rfl rfl (Nat.le_of_ble_eq_true rfl) ⟨Nat.le_of_ble_eq_true rfl, Nat.le_of_ble_eq_true rfl⟩ dX10_trade_1 (fun q5 => ?_)
  refine rx_istore C [(5, .int q5.1), (0, .ref (α 0)), (1, .int x1), (2, .int x2), (3, .int x3), (4, .int x4)] dX10_trade_4 (by decide) rfl ?_
  refine rx_iload C 5 dX10_trade_6 rfl ?_
  refine rx_callSi C [.int x4] [] (m_X10_letterIndex z.l C.inj x4 q5.2) ms_X10_letterIndex lk_X10_159 rfl rfl (Nat.le_of_ble_eq_true rfl) ⟨Nat.le_of_ble_eq_true rfl, Nat.le_of_ble_eq_true rfl⟩ dX10_trade_8 (fun q6 => ?_)
  refine rx_istore C [(6, .int q6.1), (5, .int q5.1), (0, .ref (α 0)), (1, .int x1), (2, .int x2), (3, .int x3), (4, .int x4)] dX10_trade_11 (by decide) rfl ?_
  refine rx_aload_n C 2 dX10_trade_13 rfl rfl ?_
  refine rx_aload_n C 2 dX10_trade_14 rfl rfl ?_
  refine rx_getC C (k := 5) sx_0 fc_X10 (by decide) 18 rfl lk_X10_62 dX10_trade_15 ?_
  refine rx_iload_n C 3 dX10_trade_18 rfl rfl ?_
  refine rx_iload C 1 dX10_trade_19 rfl ?_
  refine rx_iload_n C 5 dX10_trade_21 rfl rfl ?_
  refine rx_iload C 0 dX10_trade_22 rfl ?_
  refine rx_callVi C [.int x1, .int q5.1, .int x3, .int q6.1] [.ref (α 0)] (m_X1_swapLetters z.l C.inj x1 q5.1 x3 q6.1 q6.2) mv_X1_swapLetters lk_X10_244 sx_18 rfl rfl rfl (Nat.le_of_ble_eq_true rfl) ⟨Nat.le_of_ble_eq_true rfl, Nat.le_of_ble_eq_true rfl⟩ dX10_trade_24 (fun q7 => ?_)
  refine rx_iconst C dX10_trade_27 ic_2 ?_
  refine rx_callVi C [.int q7.1, .int (2 : Int32)] [] (m_X10_granted z.l C.inj q7.1 (2 : Int32) q7.2) mv_X10_granted lk_X10_91 sx_0 rfl rfl rfl (Nat.le_of_ble_eq_true rfl) ⟨Nat.le_of_ble_eq_true rfl, Nat.le_of_ble_eq_true rfl⟩ dX10_trade_28 (fun q8 => ?_)
  exact rx_zret C dX10_trade_31
theorem m_X10_trade (l : Launch) {α : Nat → Nat} {D : va_G} {cA : Nat → ClassId} (hin : inj shX.length α) (x1 : Int32) (x2 : Int32) (x3 : Int32) (x4 : Int32) (σ : St) : CT shX l yX10_trade cX10_trade 7 (some .boolean) 4 92 emI α D cA [.ref (α 0), .int x1, .int x2, .int x3, .int x4] σ (f_X10_trade x1 x2 x3 x4 σ) := ct_of rfl (Nat.le_of_ble_eq_true rfl) hin (fun z _ C => w_X10_trade_e C x1 x2 x3 x4 σ)
set_option maxRecDepth 100000 in
set_option maxHeartbeats 4000000 in
theorem w_X10_lend_e {α : Nat → Nat} {D : va_G} {cA : Nat → ClassId} {z : Cz} (C : CX shX α D cA z RX10 cX10_lend 4 (some .int) 6 147) (x1 : Int32) (x2 : Int32) (x3 : Int32) (σ : St) : RX emI shX α D cA z 4 σ 0 [(0, .ref (α 0)), (1, .int x1), (2, .int x2), (3, .int x3)] [] (f_X10_lend x1 x2 x3 σ) := by
  unfold f_X10_lend
  refine rx_aload_n C 0 dX10_lend_0 rfl rfl ?_
  refine rx_aload_n C 0 dX10_lend_1 rfl rfl ?_
  refine rx_getC C (k := 5) sx_0 fc_X10 (by decide) 18 rfl lk_X10_62 dX10_lend_2 ?_
  refine rx_iload_n C 1 dX10_lend_5 rfl rfl ?_
  refine rx_iload_n C 2 dX10_lend_6 rfl rfl ?_
  refine rx_iload_n C 3 dX10_lend_7 rfl rfl ?_
  refine rx_callVi C [.int x1, .int x2, .int x3] [.ref (α 0)] (m_X1_lendTitle z.l C.inj x1 x2 x3 σ) mv_X1_lendTitle lk_X10_248 sx_18 rfl rfl rfl (Nat.le_of_ble_eq_true rfl) ⟨Nat.le_of_ble_eq_true rfl, Nat.le_of_ble_eq_true rfl⟩ dX10_lend_8 (fun q3 => ?_)
  refine rx_iconst C dX10_lend_11 ic_3 ?_
  refine rx_callVi C [.int q3.1, .int (3 : Int32)] [] (m_X10_counted z.l C.inj q3.1 (3 : Int32) q3.2) mv_X10_counted lk_X10_83 sx_0 rfl rfl rfl (Nat.le_of_ble_eq_true rfl) ⟨Nat.le_of_ble_eq_true rfl, Nat.le_of_ble_eq_true rfl⟩ dX10_lend_12 (fun q4 => ?_)
  exact rx_iret C dX10_lend_15
theorem m_X10_lend (l : Launch) {α : Nat → Nat} {D : va_G} {cA : Nat → ClassId} (hin : inj shX.length α) (x1 : Int32) (x2 : Int32) (x3 : Int32) (σ : St) : CT shX l yX10_lend cX10_lend 4 (some .int) 6 147 emI α D cA [.ref (α 0), .int x1, .int x2, .int x3] σ (f_X10_lend x1 x2 x3 σ) := ct_of rfl (Nat.le_of_ble_eq_true rfl) hin (fun z _ C => w_X10_lend_e C x1 x2 x3 σ)
set_option maxRecDepth 100000 in
set_option maxHeartbeats 4000000 in
theorem w_X10_giveBack_e {α : Nat → Nat} {D : va_G} {cA : Nat → ClassId} {z : Cz} (C : CX shX α D cA z RX10 cX10_giveBack 2 (some .boolean) 5 111) (x1 : Int32) (σ : St) : RX emI shX α D cA z 2 σ 0 [(0, .ref (α 0)), (1, .int x1)] [] (f_X10_giveBack x1 σ) := by
  unfold f_X10_giveBack
  refine rx_aload_n C 0 dX10_giveBack_0 rfl rfl ?_
  refine rx_aload_n C 0 dX10_giveBack_1 rfl rfl ?_
  refine rx_getC C (k := 5) sx_0 fc_X10 (by decide) 18 rfl lk_X10_62 dX10_giveBack_2 ?_
  refine rx_iload_n C 1 dX10_giveBack_5 rfl rfl ?_
  refine rx_callVi C [.int x1] [.ref (α 0)] (m_X1_undoLoan z.l C.inj x1 σ) mv_X1_undoLoan lk_X10_252 sx_18 rfl rfl rfl (Nat.le_of_ble_eq_true rfl) ⟨Nat.le_of_ble_eq_true rfl, Nat.le_of_ble_eq_true rfl⟩ dX10_giveBack_6 (fun q3 => ?_)
  refine rx_iconst C dX10_giveBack_9 ic_3 ?_
  refine rx_callVi C [.int q3.1, .int (3 : Int32)] [] (m_X10_granted z.l C.inj q3.1 (3 : Int32) q3.2) mv_X10_granted lk_X10_91 sx_0 rfl rfl rfl (Nat.le_of_ble_eq_true rfl) ⟨Nat.le_of_ble_eq_true rfl, Nat.le_of_ble_eq_true rfl⟩ dX10_giveBack_10 (fun q4 => ?_)
  exact rx_zret C dX10_giveBack_13
theorem m_X10_giveBack (l : Launch) {α : Nat → Nat} {D : va_G} {cA : Nat → ClassId} (hin : inj shX.length α) (x1 : Int32) (σ : St) : CT shX l yX10_giveBack cX10_giveBack 2 (some .boolean) 5 111 emI α D cA [.ref (α 0), .int x1] σ (f_X10_giveBack x1 σ) := ct_of rfl (Nat.le_of_ble_eq_true rfl) hin (fun z _ C => w_X10_giveBack_e C x1 σ)
set_option maxRecDepth 100000 in
set_option maxHeartbeats 4000000 in
theorem w_X10_loan_36 {α : Nat → Nat} {D : va_G} {cA : Nat → ClassId} {z : Cz} (C : CX shX α D cA z RX10 cX10_loan 3 (some .int) 4 87) (x1 : Int32) (x2 : Int32) (σ : St) : RX emI shX α D cA z 3 σ 36 [(0, .ref (α 0)), (1, .int x1), (2, .int x2)] [] (f_X10_loan_36 x1 x2 σ) := by
  unfold f_X10_loan_36
  refine rx_aload_n C 0 dX10_loan_36 rfl rfl ?_
  refine rx_getC C (k := 5) sx_0 fc_X10 (by decide) 18 rfl lk_X10_62 dX10_loan_37 ?_
  refine rx_getC C (k := 3) sx_18 fc_X1 (by decide) 21 rfl lk_X10_139 dX10_loan_40 ?_
  refine rx_iload_n C 1 dX10_loan_43 rfl rfl ?_
  refine rx_iload_n C 2 dX10_loan_44 rfl rfl ?_
  refine rx_callVi C [.int x1, .int x2] [] (m_X8_get z.l C.inj 21 rn_21 x1 x2 σ) mv_X8_get lk_X10_172 sx_21 rfl rfl rfl (Nat.le_of_ble_eq_true rfl) ⟨Nat.le_of_ble_eq_true rfl, Nat.le_of_ble_eq_true rfl⟩ dX10_loan_45 (fun q5 => ?_)
  exact rx_iret C dX10_loan_48
set_option maxRecDepth 100000 in
set_option maxHeartbeats 4000000 in
theorem w_X10_loan_35 {α : Nat → Nat} {D : va_G} {cA : Nat → ClassId} {z : Cz} (C : CX shX α D cA z RX10 cX10_loan 3 (some .int) 4 87) (s0 : Int32) (σ : St) : RX emI shX α D cA z 3 σ 35 [] [.int s0] (f_X10_loan_35 s0 σ) := by
  unfold f_X10_loan_35
  exact rx_iret C dX10_loan_35
set_option maxRecDepth 100000 in
set_option maxHeartbeats 4000000 in
theorem w_X10_loan_e {α : Nat → Nat} {D : va_G} {cA : Nat → ClassId} {z : Cz} (C : CX shX α D cA z RX10 cX10_loan 3 (some .int) 4 87) (x1 : Int32) (x2 : Int32) (σ : St) : RX emI shX α D cA z 3 σ 0 [(0, .ref (α 0)), (1, .int x1), (2, .int x2)] [] (f_X10_loan x1 x2 σ) := by
  unfold f_X10_loan
  refine rx_iload_n C 2 dX10_loan_0 rfl rfl ?_
  refine rx_iconst C dX10_loan_1 ic_3 ?_
  refine rx_icmp_ne C (tgt := 36) dX10_loan_2 (by decide) (fun _ => ?_) (fun _ => ?_)
  · refine rx_aload_n C 0 dX10_loan_5 rfl rfl ?_
    refine rx_getC C (k := 5) sx_0 fc_X10 (by decide) 18 rfl lk_X10_62 dX10_loan_6 ?_
    refine rx_getC C (k := 3) sx_18 fc_X1 (by decide) 21 rfl lk_X10_139 dX10_loan_9 ?_
    refine rx_iload_n C 1 dX10_loan_12 rfl rfl ?_
    refine rx_callVi C [.int x1] [] (m_X8_holds z.l C.inj 21 rn_21 x1 σ) mv_X8_holds lk_X10_165 sx_21 rfl rfl rfl (Nat.le_of_ble_eq_true rfl) ⟨Nat.le_of_ble_eq_true rfl, Nat.le_of_ble_eq_true rfl⟩ dX10_loan_13 (fun q4 => ?_)
    refine rx_if_eq C (tgt := 36) dX10_loan_16 (by decide) (fun _ => ?_) (fun _ => ?_)
    · exact RX.loc (w_X10_loan_36 C x1 x2 q4.2) [0, 1, 2] rfl
    · refine rx_aload_n C 0 dX10_loan_19 rfl rfl ?_
      refine rx_getC C (k := 5) sx_0 fc_X10 (by decide) 18 rfl lk_X10_62 dX10_loan_20 ?_
      refine rx_iload_n C 1 dX10_loan_23 rfl rfl ?_
      refine rx_callVi C [.int x1] [] (m_X1_canUndo z.l C.inj x1 q4.2) mv_X1_canUndo lk_X10_255 sx_18 rfl rfl rfl (Nat.le_of_ble_eq_true rfl) ⟨Nat.le_of_ble_eq_true rfl, Nat.le_of_ble_eq_true rfl⟩ dX10_loan_24 (fun q6 => ?_)
      refine rx_if_eq C (tgt := 34) dX10_loan_27 (by decide) (fun _ => ?_) (fun _ => ?_)
      · refine rx_iconst C dX10_loan_34 ic_0 ?_
        exact RX.loc (w_X10_loan_35 C (0 : Int32) q6.2) [] rfl
      · refine rx_iconst C dX10_loan_30 ic_1 ?_
        refine rx_goto C (tgt := 35) dX10_loan_31 (by decide) ?_
        exact RX.loc (w_X10_loan_35 C (1 : Int32) q6.2) [] rfl
  · exact RX.loc (w_X10_loan_36 C x1 x2 σ) [0, 1, 2] rfl
theorem m_X10_loan (l : Launch) {α : Nat → Nat} {D : va_G} {cA : Nat → ClassId} (hin : inj shX.length α) (x1 : Int32) (x2 : Int32) (σ : St) : CT shX l yX10_loan cX10_loan 3 (some .int) 4 87 emI α D cA [.ref (α 0), .int x1, .int x2] σ (f_X10_loan x1 x2 σ) := ct_of rfl (Nat.le_of_ble_eq_true rfl) hin (fun z _ C => w_X10_loan_e C x1 x2 σ)
set_option maxRecDepth 100000 in
set_option maxHeartbeats 4000000 in
theorem w_X10_drown_e {α : Nat → Nat} {D : va_G} {cA : Nat → ClassId} {z : Cz} (C : CX shX α D cA z RX10 cX10_drown 2 (some .int) 4 91) (x1 : Int32) (σ : St) : RX emI shX α D cA z 2 σ 0 [(0, .ref (α 0)), (1, .int x1)] [] (f_X10_drown x1 σ) := by
  unfold f_X10_drown
  refine rx_aload_n C 0 dX10_drown_0 rfl rfl ?_
  refine rx_aload_n C 0 dX10_drown_1 rfl rfl ?_
  refine rx_getC C (k := 5) sx_0 fc_X10 (by decide) 18 rfl lk_X10_62 dX10_drown_2 ?_
  refine rx_iload_n C 1 dX10_drown_5 rfl rfl ?_
  refine rx_callVi C [.int x1] [.ref (α 0)] (m_X1_sinkCoat z.l C.inj x1 σ) mv_X1_sinkCoat lk_X10_258 sx_18 rfl rfl rfl (Nat.le_of_ble_eq_true rfl) ⟨Nat.le_of_ble_eq_true rfl, Nat.le_of_ble_eq_true rfl⟩ dX10_drown_6 (fun q3 => ?_)
  refine rx_iconst C dX10_drown_9 ic_3 ?_
  refine rx_callVi C [.int q3.1, .int (3 : Int32)] [] (m_X10_counted z.l C.inj q3.1 (3 : Int32) q3.2) mv_X10_counted lk_X10_83 sx_0 rfl rfl rfl (Nat.le_of_ble_eq_true rfl) ⟨Nat.le_of_ble_eq_true rfl, Nat.le_of_ble_eq_true rfl⟩ dX10_drown_10 (fun q4 => ?_)
  exact rx_iret C dX10_drown_13
theorem m_X10_drown (l : Launch) {α : Nat → Nat} {D : va_G} {cA : Nat → ClassId} (hin : inj shX.length α) (x1 : Int32) (σ : St) : CT shX l yX10_drown cX10_drown 2 (some .int) 4 91 emI α D cA [.ref (α 0), .int x1] σ (f_X10_drown x1 σ) := ct_of rfl (Nat.le_of_ble_eq_true rfl) hin (fun z _ C => w_X10_drown_e C x1 σ)
set_option maxRecDepth 100000 in
set_option maxHeartbeats 4000000 in
theorem w_X10_melt_e {α : Nat → Nat} {D : va_G} {cA : Nat → ClassId} {z : Cz} (C : CX shX α D cA z RX10 cX10_melt 3 (some .int) 4 91) (x1 : Int32) (x2 : Int32) (σ : St) : RX emI shX α D cA z 3 σ 0 [(0, .ref (α 0)), (1, .int x1), (2, .int x2)] [] (f_X10_melt x1 x2 σ) := by
  unfold f_X10_melt
  refine rx_aload_n C 0 dX10_melt_0 rfl rfl ?_
  refine rx_aload_n C 0 dX10_melt_1 rfl rfl ?_
  refine rx_getC C (k := 5) sx_0 fc_X10 (by decide) 18 rfl lk_X10_62 dX10_melt_2 ?_
  refine rx_iload_n C 1 dX10_melt_5 rfl rfl ?_
  refine rx_iload_n C 2 dX10_melt_6 rfl rfl ?_
  refine rx_callVi C [.int x1, .int x2] [.ref (α 0)] (m_X1_castBullet z.l C.inj x1 x2 σ) mv_X1_castBullet lk_X10_261 sx_18 rfl rfl rfl (Nat.le_of_ble_eq_true rfl) ⟨Nat.le_of_ble_eq_true rfl, Nat.le_of_ble_eq_true rfl⟩ dX10_melt_7 (fun q3 => ?_)
  refine rx_iconst C dX10_melt_10 ic_3 ?_
  refine rx_callVi C [.int q3.1, .int (3 : Int32)] [] (m_X10_counted z.l C.inj q3.1 (3 : Int32) q3.2) mv_X10_counted lk_X10_83 sx_0 rfl rfl rfl (Nat.le_of_ble_eq_true rfl) ⟨Nat.le_of_ble_eq_true rfl, Nat.le_of_ble_eq_true rfl⟩ dX10_melt_11 (fun q4 => ?_)
  exact rx_iret C dX10_melt_14
theorem m_X10_melt (l : Launch) {α : Nat → Nat} {D : va_G} {cA : Nat → ClassId} (hin : inj shX.length α) (x1 : Int32) (x2 : Int32) (σ : St) : CT shX l yX10_melt cX10_melt 3 (some .int) 4 91 emI α D cA [.ref (α 0), .int x1, .int x2] σ (f_X10_melt x1 x2 σ) := ct_of rfl (Nat.le_of_ble_eq_true rfl) hin (fun z _ C => w_X10_melt_e C x1 x2 σ)
set_option maxRecDepth 100000 in
set_option maxHeartbeats 4000000 in
theorem w_X10_heir_e {α : Nat → Nat} {D : va_G} {cA : Nat → ClassId} {z : Cz} (C : CX shX α D cA z RX10 cX10_heir 3 (some .int) 29 694) (x1 : Int32) (x2 : Int32) (σ : St) : RX emI shX α D cA z 3 σ 0 [(0, .ref (α 0)), (1, .int x1), (2, .int x2)] [] (f_X10_heir x1 x2 σ) := by
  unfold f_X10_heir
  refine rx_aload_n C 0 dX10_heir_0 rfl rfl ?_
  refine rx_aload_n C 0 dX10_heir_1 rfl rfl ?_
  refine rx_getC C (k := 5) sx_0 fc_X10 (by decide) 18 rfl lk_X10_62 dX10_heir_2 ?_
  refine rx_iload_n C 1 dX10_heir_5 rfl rfl ?_
  refine rx_iload_n C 2 dX10_heir_6 rfl rfl ?_
  refine rx_callVi C [.int x1, .int x2] [.ref (α 0)] (m_X1_inherit z.l C.inj x1 x2 σ) mv_X1_inherit lk_X10_264 sx_18 rfl rfl rfl (Nat.le_of_ble_eq_true rfl) ⟨Nat.le_of_ble_eq_true rfl, Nat.le_of_ble_eq_true rfl⟩ dX10_heir_7 (fun q3 => ?_)
  refine rx_iconst C dX10_heir_10 ic_3 ?_
  refine rx_callVi C [.int q3.1, .int (3 : Int32)] [] (m_X10_counted z.l C.inj q3.1 (3 : Int32) q3.2) mv_X10_counted lk_X10_83 sx_0 rfl rfl rfl (Nat.le_of_ble_eq_true rfl) ⟨Nat.le_of_ble_eq_true rfl, Nat.le_of_ble_eq_true rfl⟩ dX10_heir_11 (fun q4 => ?_)
  exact rx_iret C dX10_heir_14
theorem m_X10_heir (l : Launch) {α : Nat → Nat} {D : va_G} {cA : Nat → ClassId} (hin : inj shX.length α) (x1 : Int32) (x2 : Int32) (σ : St) : CT shX l yX10_heir cX10_heir 3 (some .int) 29 694 emI α D cA [.ref (α 0), .int x1, .int x2] σ (f_X10_heir x1 x2 σ) := ct_of rfl (Nat.le_of_ble_eq_true rfl) hin (fun z _ C => w_X10_heir_e C x1 x2 σ)
set_option maxRecDepth 100000 in
set_option maxHeartbeats 4000000 in
theorem w_X10_years_e {α : Nat → Nat} {D : va_G} {cA : Nat → ClassId} {z : Cz} (C : CX shX α D cA z RX10 cX10_years 2 (some .int) 30 717) (x1 : Int32) (σ : St) : RX emI shX α D cA z 2 σ 0 [(0, .ref (α 0)), (1, .int x1)] [] (f_X10_years x1 σ) := by
  unfold f_X10_years
  refine rx_aload_n C 0 dX10_years_0 rfl rfl ?_
  refine rx_aload_n C 0 dX10_years_1 rfl rfl ?_
  refine rx_getC C (k := 5) sx_0 fc_X10 (by decide) 18 rfl lk_X10_62 dX10_years_2 ?_
  refine rx_iload_n C 1 dX10_years_5 rfl rfl ?_
  refine rx_callVi C [.int x1] [.ref (α 0)] (m_X1_passYears z.l C.inj x1 σ) mv_X1_passYears lk_X10_267 sx_18 rfl rfl rfl (Nat.le_of_ble_eq_true rfl) ⟨Nat.le_of_ble_eq_true rfl, Nat.le_of_ble_eq_true rfl⟩ dX10_years_6 (fun q3 => ?_)
  refine rx_iconst C dX10_years_9 ic_4 ?_
  refine rx_callVi C [.int q3.1, .int (4 : Int32)] [] (m_X10_counted z.l C.inj q3.1 (4 : Int32) q3.2) mv_X10_counted lk_X10_83 sx_0 rfl rfl rfl (Nat.le_of_ble_eq_true rfl) ⟨Nat.le_of_ble_eq_true rfl, Nat.le_of_ble_eq_true rfl⟩ dX10_years_10 (fun q4 => ?_)
  exact rx_iret C dX10_years_13
theorem m_X10_years (l : Launch) {α : Nat → Nat} {D : va_G} {cA : Nat → ClassId} (hin : inj shX.length α) (x1 : Int32) (σ : St) : CT shX l yX10_years cX10_years 2 (some .int) 30 717 emI α D cA [.ref (α 0), .int x1] σ (f_X10_years x1 σ) := ct_of rfl (Nat.le_of_ble_eq_true rfl) hin (fun z _ C => w_X10_years_e C x1 σ)
set_option maxRecDepth 100000 in
set_option maxHeartbeats 4000000 in
theorem w_X10_feast_67 {α : Nat → Nat} {D : va_G} {cA : Nat → ClassId} {z : Cz} (C : CX shX α D cA z RX10 cX10_feast 4 (some .int) 7 174) (k_4 : Int32 → Int32 → St → Option (Int32 × St)) (hk_4 : ∀ (x1 : Int32) (x2 : Int32) (σ : St), RX emI shX α D cA z 4 σ 4 [(0, .ref (α 0)), (1, .int x1), (2, .int x2)] [] (k_4 x1 x2 σ)) (x1 : Int32) (x2 : Int32) (σ : St) : RX emI shX α D cA z 4 σ 67 [(0, .ref (α 0)), (1, .int x1), (2, .int x2)] [] (f_X10_feast_67 k_4 x1 x2 σ) := by
  unfold f_X10_feast_67
  refine rx_iinc C (k0 := 2) (v := x2 + (1 : Int32)) [(2, .int (x2 + (1 : Int32))), (0, .ref (α 0)), (1, .int x1)] dX10_feast_67 rfl (congrArg _ ic_1) (by decide) rfl ?_
  refine rx_goto C (tgt := 4) dX10_feast_70 (by decide) ?_
  exact RX.loc (hk_4 x1 (x2 + (1 : Int32)) σ) [1, 2, 0] rfl
set_option maxRecDepth 100000 in
set_option maxHeartbeats 4000000 in
theorem w_X10_feast_4 {α : Nat → Nat} {D : va_G} {cA : Nat → ClassId} {z : Cz} (C : CX shX α D cA z RX10 cX10_feast 4 (some .int) 7 174) : ∀ (n : Nat) (x1 : Int32) (x2 : Int32) (σ : St), RX emI shX α D cA z 4 σ 4 [(0, .ref (α 0)), (1, .int x1), (2, .int x2)] [] (f_X10_feast_4 n x1 x2 σ) := by
  intro n
  induction n with
  | zero => intros; exact rx_none
  | succ n hk_4 =>
    intro x1 x2 σ
    rw [f_X10_feast_4.eq_2]
    refine rx_iload_n C 2 dX10_feast_4 rfl rfl ?_
    refine rx_aload_n C 0 dX10_feast_5 rfl rfl ?_
    refine rx_getC C (k := 4) sx_0 fc_X10 (by decide) 6 rfl lk_X10_53 dX10_feast_6 ?_
    refine rx_getR C (k := 0) sx_6 fc_X2 (by decide) rfl lk_X10_106 dX10_feast_9 ?_
    refine rx_ltr (fun g6 => ?_)
    refine rx_if (fun hg6 => ?_) (fun _ => rx_none)
    refine rx_getC C (k := 0) (ld_sh (landB_is hg6)) fc_X4 (by decide) (g6 + 1) rfl lk_X10_115 dX10_feast_12 ?_
    refine rx_getI C (k := 4) (ro_sh (ld_1 (landB_is hg6))) fc_X8 (by decide) rfl lk_X10_119 dX10_feast_15 ?_
    refine rx_icmp_ge C (tgt := 73) dX10_feast_18 (by decide) (fun _ => ?_) (fun _ => ?_)
    · refine rx_iload_n C 1 dX10_feast_73 rfl rfl ?_
      exact rx_iret C dX10_feast_74
    · refine rx_aload_n C 0 dX10_feast_21 rfl rfl ?_
      refine rx_getC C (k := 5) sx_0 fc_X10 (by decide) 18 rfl lk_X10_62 dX10_feast_22 ?_
      refine rx_aload_n C 0 dX10_feast_25 rfl rfl ?_
      refine rx_getC C (k := 5) sx_0 fc_X10 (by decide) 18 rfl lk_X10_62 dX10_feast_26 ?_
      refine rx_iload_n C 2 dX10_feast_29 rfl rfl ?_
      refine rx_callVi C [.int x2] [.ref (α 18)] (m_X1_gainable z.l C.inj x2 σ) mv_X1_gainable lk_X10_270 sx_18 rfl rfl rfl (Nat.le_of_ble_eq_true rfl) ⟨Nat.le_of_ble_eq_true rfl, Nat.le_of_ble_eq_true rfl⟩ dX10_feast_30 (fun q7 => ?_)
      refine rx_iconst C dX10_feast_33 ic_1 ?_
      refine rx_iadd C dX10_feast_34 ?_
      refine rx_callVi C [.int (q7.1 + (1 : Int32))] [] (m_X1_draw z.l C.inj (q7.1 + (1 : Int32)) q7.2) mv_X1_draw lk_X10_273 sx_18 rfl rfl rfl (Nat.le_of_ble_eq_true rfl) ⟨Nat.le_of_ble_eq_true rfl, Nat.le_of_ble_eq_true rfl⟩ dX10_feast_35 (fun q8 => ?_)
      refine rx_istore_n C [(3, .int q8.1), (0, .ref (α 0)), (1, .int x1), (2, .int x2)] dX10_feast_38 rfl (by decide) rfl ?_
      refine rx_iload_n C 0 dX10_feast_39 rfl rfl ?_
      refine rx_if_le C (tgt := 67) dX10_feast_40 (by decide) (fun _ => ?_) (fun _ => ?_)
      · exact RX.loc (w_X10_feast_67 C (f_X10_feast_4 n) hk_4 x1 x2 q8.2) [1, 2, 3] rfl
      · refine rx_aload_n C 1 dX10_feast_43 rfl rfl ?_
        refine rx_getC C (k := 5) sx_0 fc_X10 (by decide) 18 rfl lk_X10_62 dX10_feast_44 ?_
        refine rx_iload_n C 3 dX10_feast_47 rfl rfl ?_
        refine rx_aload_n C 1 dX10_feast_48 rfl rfl ?_
        refine rx_getC C (k := 5) sx_0 fc_X10 (by decide) 18 rfl lk_X10_62 dX10_feast_49 ?_
        refine rx_iload_n C 3 dX10_feast_52 rfl rfl ?_
        refine rx_iload_n C 0 dX10_feast_53 rfl rfl ?_
        refine rx_callVi C [.int x2, .int q8.1] [.int x2, .ref (α 18)] (m_X1_gainableAt z.l C.inj x2 q8.1 q8.2) mv_X1_gainableAt lk_X10_276 sx_18 rfl rfl rfl (Nat.le_of_ble_eq_true rfl) ⟨Nat.le_of_ble_eq_true rfl, Nat.le_of_ble_eq_true rfl⟩ dX10_feast_54 (fun q9 => ?_)
        refine rx_callVi C [.int x2, .int q9.1] [] (m_X1_makeTitle z.l C.inj x2 q9.1 q9.2) mv_X1_makeTitle lk_X10_234 sx_18 rfl rfl rfl (Nat.le_of_ble_eq_true rfl) ⟨Nat.le_of_ble_eq_true rfl, Nat.le_of_ble_eq_true rfl⟩ dX10_feast_57 (fun q10 => ?_)
        refine rx_iconst C dX10_feast_60 ic_m1 ?_
        refine rx_icmp_eq C (tgt := 67) dX10_feast_61 (by decide) (fun _ => ?_) (fun _ => ?_)
        · exact RX.loc (w_X10_feast_67 C (f_X10_feast_4 n) hk_4 x1 x2 q10.2) [1, 2, 3] rfl
        · refine rx_iinc C (k0 := 2) (v := x1 + (1 : Int32)) [(1, .int (x1 + (1 : Int32))), (3, .int q8.1), (0, .ref (α 0)), (2, .int x2)] dX10_feast_64 rfl (congrArg _ ic_1) (by decide) rfl ?_
          exact RX.loc (w_X10_feast_67 C (f_X10_feast_4 n) hk_4 (x1 + (1 : Int32)) x2 q10.2) [2, 0, 3] rfl
set_option maxRecDepth 100000 in
set_option maxHeartbeats 4000000 in
theorem w_X10_feast_e {α : Nat → Nat} {D : va_G} {cA : Nat → ClassId} {z : Cz} (C : CX shX α D cA z RX10 cX10_feast 4 (some .int) 7 174) (σ : St) : RX emI shX α D cA z 4 σ 0 [(0, .ref (α 0))] [] (f_X10_feast σ) := by
  unfold f_X10_feast
  refine rx_iconst C dX10_feast_0 ic_0 ?_
  refine rx_istore_n C [(1, .int (0 : Int32)), (0, .ref (α 0))] dX10_feast_1 rfl (by decide) rfl ?_
  refine rx_iconst C dX10_feast_2 ic_0 ?_
  refine rx_istore_n C [(2, .int (0 : Int32)), (1, .int (0 : Int32)), (0, .ref (α 0))] dX10_feast_3 rfl (by decide) rfl ?_
  exact RX.loc (w_X10_feast_4 C FU (0 : Int32) (0 : Int32) σ) [2, 1, 0] rfl
theorem m_X10_feast (l : Launch) {α : Nat → Nat} {D : va_G} {cA : Nat → ClassId} (hin : inj shX.length α) (σ : St) : CT shX l yX10_feast cX10_feast 4 (some .int) 7 174 emI α D cA [.ref (α 0)] σ (f_X10_feast σ) := ct_of rfl (Nat.le_of_ble_eq_true rfl) hin (fun z _ C => w_X10_feast_e C σ)
