set_option maxRecDepth 100000 in
set_option maxHeartbeats 4000000 in
theorem w_X11_reads_86 {α : Nat → Nat} {D : va_G} {cA : Nat → ClassId} {z : Cz} (C : CX shM α D cA z RX11 cX11_reads 3 none 4 91) (k_43 : Int32 → St → Option (Unit × St)) (hk_43 : ∀ (x2 : Int32) (σ : St), RX emV shM α D cA z 3 σ 43 [(0, .ref (α 0)), (2, .int x2)] [] (k_43 x2 σ)) (s0 : Int32) (σ : St) : RX emV shM α D cA z 3 σ 86 [(0, .ref (α 0))] [.int s0] (f_X11_reads_86 k_43 s0 σ) := by
  unfold f_X11_reads_86
  refine rx_istore_n C [(2, .int s0), (0, .ref (α 0))] dX11_reads_86 rfl (by decide) rfl ?_
  refine rx_goto C (tgt := 43) dX11_reads_87 (by decide) ?_
  exact RX.loc (hk_43 s0 σ) [1, 0] rfl
set_option maxRecDepth 100000 in
set_option maxHeartbeats 4000000 in
theorem w_X11_reads_85 {α : Nat → Nat} {D : va_G} {cA : Nat → ClassId} {z : Cz} (C : CX shM α D cA z RX11 cX11_reads 3 none 4 91) (k_43 : Int32 → St → Option (Unit × St)) (hk_43 : ∀ (x2 : Int32) (σ : St), RX emV shM α D cA z 3 σ 43 [(0, .ref (α 0)), (2, .int x2)] [] (k_43 x2 σ)) (σ : St) : RX emV shM α D cA z 3 σ 85 [(0, .ref (α 0))] [] (f_X11_reads_85 k_43 σ) := by
  unfold f_X11_reads_85
  refine rx_iconst C dX11_reads_85 ic_0 ?_
  exact RX.loc (w_X11_reads_86 C k_43 hk_43 (0 : Int32) σ) [0] rfl
set_option maxRecDepth 100000 in
set_option maxHeartbeats 4000000 in
theorem w_X11_reads_70 {α : Nat → Nat} {D : va_G} {cA : Nat → ClassId} {z : Cz} (C : CX shM α D cA z RX11 cX11_reads 3 none 4 91) (k_43 : Int32 → St → Option (Unit × St)) (hk_43 : ∀ (x2 : Int32) (σ : St), RX emV shM α D cA z 3 σ 43 [(0, .ref (α 0)), (2, .int x2)] [] (k_43 x2 σ)) (x2 : Int32) (σ : St) : RX emV shM α D cA z 3 σ 70 [(0, .ref (α 0)), (2, .int x2)] [] (f_X11_reads_70 k_43 x2 σ) := by
  unfold f_X11_reads_70
  refine rx_iload_n C 1 dX11_reads_70 rfl rfl ?_
  refine rx_if_eq C (tgt := 85) dX11_reads_71 (by decide) (fun _ => ?_) (fun _ => ?_)
  · exact RX.loc (w_X11_reads_85 C k_43 hk_43 σ) [0] rfl
  · refine rx_aload_n C 0 dX11_reads_74 rfl rfl ?_
    refine rx_getI C (k := 8) sm_0 fc_X11 (by decide) rfl lk_X11_36 dX11_reads_75 ?_
    refine rx_if_ne C (tgt := 85) dX11_reads_78 (by decide) (fun _ => ?_) (fun _ => ?_)
    · refine rx_iconst C dX11_reads_81 ic_1 ?_
      refine rx_goto C (tgt := 86) dX11_reads_82 (by decide) ?_
      exact RX.loc (w_X11_reads_86 C k_43 hk_43 (1 : Int32) σ) [0] rfl
    · exact RX.loc (w_X11_reads_85 C k_43 hk_43 σ) [0] rfl
set_option maxRecDepth 100000 in
set_option maxHeartbeats 4000000 in
theorem w_X11_reads_43 {α : Nat → Nat} {D : va_G} {cA : Nat → ClassId} {z : Cz} (C : CX shM α D cA z RX11 cX11_reads 3 none 4 91) : ∀ (n : Nat) (x2 : Int32) (σ : St), RX emV shM α D cA z 3 σ 43 [(0, .ref (α 0)), (2, .int x2)] [] (f_X11_reads_43 n x2 σ) := by
  intro n
  induction n with
  | zero => intros; exact rx_none
  | succ n hk_43 =>
    intro x2 σ
    rw [f_X11_reads_43.eq_2]
    refine rx_iload_n C 1 dX11_reads_43 rfl rfl ?_
    refine rx_if_eq C (tgt := 90) dX11_reads_44 (by decide) (fun _ => ?_) (fun _ => ?_)
    · exact rx_vret C dX11_reads_90
    · refine rx_aload_n C 0 dX11_reads_47 rfl rfl ?_
      refine rx_getI C (k := 48) sm_0 fc_X11 (by decide) rfl lk_X11_158 dX11_reads_48 ?_
      refine rx_if_ne C (tgt := 65) dX11_reads_51 (by decide) (fun _ => ?_) (fun _ => ?_)
      · refine rx_aload_n C 0 dX11_reads_54 rfl rfl ?_
        refine rx_aload_n C 0 dX11_reads_55 rfl rfl ?_
        refine rx_callVi C [] [.ref (α 0)] (m_X11_operand z.l C.inj σ) mv_X11_operand lk_X11_338 sm_0 rfl rfl rfl (Nat.le_of_ble_eq_true rfl) ⟨Nat.le_of_ble_eq_true rfl, Nat.le_of_ble_eq_true rfl⟩ dX11_reads_56 (fun q15 => ?_)
        refine rx_if (fun hz16 => ?_) (fun _ => rx_none)
        refine rx_putI C (k := 48) sm_0 fc_X11 (by decide) rfl lk_X11_158 rfl (zok_n hz16) dX11_reads_59 ?_
        refine rx_lts (fun σ17 => ?_)
        refine rx_goto C (tgt := 70) dX11_reads_62 (by decide) ?_
        exact RX.loc (w_X11_reads_70 C (f_X11_reads_43 n) hk_43 x2 σ17) [0, 1] rfl
      · refine rx_aload_n C 0 dX11_reads_65 rfl rfl ?_
        refine rx_callVi C [] [] (m_X11_goesOn z.l C.inj σ) mv_X11_goesOn lk_X11_341 sm_0 rfl rfl rfl (Nat.le_of_ble_eq_true rfl) ⟨Nat.le_of_ble_eq_true rfl, Nat.le_of_ble_eq_true rfl⟩ dX11_reads_66 (fun q18 => ?_)
        refine rx_istore_n C [(2, .int q18.1), (0, .ref (α 0))] dX11_reads_69 rfl (by decide) rfl ?_
        exact RX.loc (w_X11_reads_70 C (f_X11_reads_43 n) hk_43 q18.1 q18.2) [1, 0] rfl
set_option maxRecDepth 100000 in
set_option maxHeartbeats 4000000 in
theorem w_X11_reads_38 {α : Nat → Nat} {D : va_G} {cA : Nat → ClassId} {z : Cz} (C : CX shM α D cA z RX11 cX11_reads 3 none 4 91) (s1 : Int32) (σ : St) : RX emV shM α D cA z 3 σ 38 [(0, .ref (α 0))] [.int s1, .ref (α 0)] (f_X11_reads_38 s1 σ) := by
  unfold f_X11_reads_38
  refine rx_callVv C [.int s1] [] (m_X11_pushes z.l C.inj s1 σ) mv_X11_pushes lk_X11_319 sm_0 rfl rfl rfl (Nat.le_of_ble_eq_true rfl) ⟨Nat.le_of_ble_eq_true rfl, Nat.le_of_ble_eq_true rfl⟩ dX11_reads_38 (fun q14 => ?_)
  refine rx_iconst C dX11_reads_41 ic_1 ?_
  refine rx_istore_n C [(2, .int (1 : Int32)), (0, .ref (α 0))] dX11_reads_42 rfl (by decide) rfl ?_
  exact RX.loc (w_X11_reads_43 C FU (1 : Int32) q14.2) [1, 0] rfl
set_option maxRecDepth 100000 in
set_option maxHeartbeats 4000000 in
theorem w_X11_reads_e {α : Nat → Nat} {D : va_G} {cA : Nat → ClassId} {z : Cz} (C : CX shM α D cA z RX11 cX11_reads 3 none 4 91) (x1 : Int32) (σ : St) : RX emV shM α D cA z 3 σ 0 [(0, .ref (α 0)), (1, .int x1)] [] (f_X11_reads x1 σ) := by
  unfold f_X11_reads
  refine rx_aload_n C 0 dX11_reads_0 rfl rfl ?_
  refine rx_getI C (k := 8) sm_0 fc_X11 (by decide) rfl lk_X11_36 dX11_reads_1 ?_
  refine rx_if_le C (tgt := 8) dX11_reads_4 (by decide) (fun _ => ?_) (fun _ => ?_)
  · refine rx_aload_n C 0 dX11_reads_8 rfl rfl ?_
    refine rx_iconst C dX11_reads_9 ic_0 ?_
    refine rx_putI C (k := 44) sm_0 fc_X11 (by decide) rfl lk_X11_146 rfl ⟨rfl, rfl⟩ dX11_reads_10 ?_
    refine rx_lts (fun σ10 => ?_)
    refine rx_aload_n C 0 dX11_reads_13 rfl rfl ?_
    refine rx_iconst C dX11_reads_14 ic_0 ?_
    refine rx_putI C (k := 45) sm_0 fc_X11 (by decide) rfl lk_X11_149 rfl ⟨rfl, rfl⟩ dX11_reads_15 ?_
    refine rx_lts (fun σ11 => ?_)
    refine rx_aload_n C 0 dX11_reads_18 rfl rfl ?_
    refine rx_iconst C dX11_reads_19 ic_0 ?_
    refine rx_putI C (k := 47) sm_0 fc_X11 (by decide) rfl lk_X11_155 rfl ⟨rfl, rfl⟩ dX11_reads_20 ?_
    refine rx_lts (fun σ12 => ?_)
    refine rx_aload_n C 0 dX11_reads_23 rfl rfl ?_
    refine rx_iconst C dX11_reads_24 ic_0 ?_
    refine rx_putI C (k := 48) sm_0 fc_X11 (by decide) rfl lk_X11_158 rfl ⟨rfl, rfl⟩ dX11_reads_25 ?_
    refine rx_lts (fun σ13 => ?_)
    refine rx_aload_n C 0 dX11_reads_28 rfl rfl ?_
    refine rx_iload_n C 1 dX11_reads_29 rfl rfl ?_
    refine rx_if_eq C (tgt := 37) dX11_reads_30 (by decide) (fun _ => ?_) (fun _ => ?_)
    · refine rx_iconst C dX11_reads_37 ic_0 ?_
      exact RX.loc (w_X11_reads_38 C (0 : Int32) σ13) [0] rfl
    · refine rx_iconst C dX11_reads_33 ic_1 ?_
      refine rx_goto C (tgt := 38) dX11_reads_34 (by decide) ?_
      exact RX.loc (w_X11_reads_38 C (1 : Int32) σ13) [0] rfl
  · exact rx_vret C dX11_reads_7
theorem m_X11_reads (l : Launch) {α : Nat → Nat} {D : va_G} {cA : Nat → ClassId} (hin : inj shM.length α) (x1 : Int32) (σ : St) : CT shM l yX11_reads cX11_reads 3 none 4 91 emV α D cA [.ref (α 0), .int x1] σ (f_X11_reads x1 σ) := ct_of rfl (Nat.le_of_ble_eq_true rfl) hin (fun z _ C => w_X11_reads_e C x1 σ)
set_option maxRecDepth 100000 in
set_option maxHeartbeats 4000000 in
theorem w_X11_counts_43 {α : Nat → Nat} {D : va_G} {cA : Nat → ClassId} {z : Cz} (C : CX shM α D cA z RX11 cX11_counts 2 (some .boolean) 2 47) (s0 : Int32) (σ : St) : RX emI shM α D cA z 2 σ 43 [] [.int s0] (f_X11_counts_43 s0 σ) := by
  unfold f_X11_counts_43
  exact rx_zret C dX11_counts_43
set_option maxRecDepth 100000 in
set_option maxHeartbeats 4000000 in
theorem w_X11_counts_31 {α : Nat → Nat} {D : va_G} {cA : Nat → ClassId} {z : Cz} (C : CX shM α D cA z RX11 cX11_counts 2 (some .boolean) 2 47) (σ : St) : RX emI shM α D cA z 2 σ 31 [(0, .ref (α 0))] [] (f_X11_counts_31 σ) := by
  unfold f_X11_counts_31
  refine rx_aload_n C 0 dX11_counts_31 rfl rfl ?_
  refine rx_getI C (k := 8) sm_0 fc_X11 (by decide) rfl lk_X11_36 dX11_counts_32 ?_
  refine rx_if_ne C (tgt := 42) dX11_counts_35 (by decide) (fun _ => ?_) (fun _ => ?_)
  · refine rx_iconst C dX11_counts_38 ic_1 ?_
    refine rx_goto C (tgt := 43) dX11_counts_39 (by decide) ?_
    exact RX.loc (w_X11_counts_43 C (1 : Int32) σ) [] rfl
  · refine rx_iconst C dX11_counts_42 ic_0 ?_
    exact RX.loc (w_X11_counts_43 C (0 : Int32) σ) [] rfl
set_option maxRecDepth 100000 in
set_option maxHeartbeats 4000000 in
theorem w_X11_counts_20 {α : Nat → Nat} {D : va_G} {cA : Nat → ClassId} {z : Cz} (C : CX shM α D cA z RX11 cX11_counts 2 (some .boolean) 2 47) (σ : St) : RX emI shM α D cA z 2 σ 20 [(0, .ref (α 0))] [] (f_X11_counts_20 σ) := by
  unfold f_X11_counts_20
  refine rx_aload_n C 0 dX11_counts_20 rfl rfl ?_
  refine rx_getI C (k := 8) sm_0 fc_X11 (by decide) rfl lk_X11_36 dX11_counts_21 ?_
  refine rx_if_ne C (tgt := 31) dX11_counts_24 (by decide) (fun _ => ?_) (fun _ => ?_)
  · refine rx_aload_n C 0 dX11_counts_27 rfl rfl ?_
    refine rx_callVv C [] [] (m_X11_ahead z.l C.inj σ) mv_X11_ahead lk_X11_256 sm_0 rfl rfl rfl (Nat.le_of_ble_eq_true rfl) ⟨Nat.le_of_ble_eq_true rfl, Nat.le_of_ble_eq_true rfl⟩ dX11_counts_28 (fun q3 => ?_)
    exact RX.loc (w_X11_counts_31 C q3.2) [0] rfl
  · exact RX.loc (w_X11_counts_31 C σ) [0] rfl
set_option maxRecDepth 100000 in
set_option maxHeartbeats 4000000 in
theorem w_X11_counts_e {α : Nat → Nat} {D : va_G} {cA : Nat → ClassId} {z : Cz} (C : CX shM α D cA z RX11 cX11_counts 2 (some .boolean) 2 47) (x1 : Int32) (σ : St) : RX emI shM α D cA z 2 σ 0 [(0, .ref (α 0)), (1, .int x1)] [] (f_X11_counts x1 σ) := by
  unfold f_X11_counts
  refine rx_aload_n C 0 dX11_counts_0 rfl rfl ?_
  refine rx_getI C (k := 8) sm_0 fc_X11 (by decide) rfl lk_X11_36 dX11_counts_1 ?_
  refine rx_if_ne C (tgt := 20) dX11_counts_4 (by decide) (fun _ => ?_) (fun _ => ?_)
  · refine rx_iload_n C 1 dX11_counts_7 rfl rfl ?_
    refine rx_if_eq C (tgt := 20) dX11_counts_8 (by decide) (fun _ => ?_) (fun _ => ?_)
    · exact RX.loc (w_X11_counts_20 C σ) [0] rfl
    · refine rx_aload_n C 0 dX11_counts_11 rfl rfl ?_
      refine rx_iconst C dX11_counts_12 ic_5 ?_
      refine rx_aload_n C 0 dX11_counts_13 rfl rfl ?_
      refine rx_getI C (k := 4) sm_0 fc_X11 (by decide) rfl lk_X11_23 dX11_counts_14 ?_
      refine rx_callVv C [.int (5 : Int32), .int (gI σ 0 4)] [] (m_X11_blame z.l C.inj (5 : Int32) (gI σ 0 4) σ) mv_X11_blame lk_X11_249 sm_0 rfl rfl rfl (Nat.le_of_ble_eq_true rfl) ⟨Nat.le_of_ble_eq_true rfl, Nat.le_of_ble_eq_true rfl⟩ dX11_counts_17 (fun q4 => ?_)
      exact RX.loc (w_X11_counts_20 C q4.2) [0] rfl
  · exact RX.loc (w_X11_counts_20 C σ) [0] rfl
theorem m_X11_counts (l : Launch) {α : Nat → Nat} {D : va_G} {cA : Nat → ClassId} (hin : inj shM.length α) (x1 : Int32) (σ : St) : CT shM l yX11_counts cX11_counts 2 (some .boolean) 2 47 emI α D cA [.ref (α 0), .int x1] σ (f_X11_counts x1 σ) := ct_of rfl (Nat.le_of_ble_eq_true rfl) hin (fun z _ C => w_X11_counts_e C x1 σ)
set_option maxRecDepth 100000 in
set_option maxHeartbeats 4000000 in
theorem w_X11_must__36 {α : Nat → Nat} {D : va_G} {cA : Nat → ClassId} {z : Cz} (C : CX shM α D cA z RX11 cX11_must_ 3 none 2 47) (σ : St) : RX emV shM α D cA z 3 σ 36 [] [] (f_X11_must__36 σ) := by
  unfold f_X11_must__36
  exact rx_vret C dX11_must__36
set_option maxRecDepth 100000 in
set_option maxHeartbeats 4000000 in
theorem w_X11_must__25 {α : Nat → Nat} {D : va_G} {cA : Nat → ClassId} {z : Cz} (C : CX shM α D cA z RX11 cX11_must_ 3 none 2 47) (σ : St) : RX emV shM α D cA z 3 σ 25 [(0, .ref (α 0))] [] (f_X11_must__25 σ) := by
  unfold f_X11_must__25
  refine rx_aload_n C 0 dX11_must__25 rfl rfl ?_
  refine rx_getI C (k := 8) sm_0 fc_X11 (by decide) rfl lk_X11_36 dX11_must__26 ?_
  refine rx_if_ne C (tgt := 36) dX11_must__29 (by decide) (fun _ => ?_) (fun _ => ?_)
  · refine rx_aload_n C 0 dX11_must__32 rfl rfl ?_
    refine rx_callVv C [] [] (m_X11_ahead z.l C.inj σ) mv_X11_ahead lk_X11_256 sm_0 rfl rfl rfl (Nat.le_of_ble_eq_true rfl) ⟨Nat.le_of_ble_eq_true rfl, Nat.le_of_ble_eq_true rfl⟩ dX11_must__33 (fun q6 => ?_)
    exact RX.loc (w_X11_must__36 C q6.2) [] rfl
  · exact RX.loc (w_X11_must__36 C σ) [] rfl
set_option maxRecDepth 100000 in
set_option maxHeartbeats 4000000 in
theorem w_X11_must__e {α : Nat → Nat} {D : va_G} {cA : Nat → ClassId} {z : Cz} (C : CX shM α D cA z RX11 cX11_must_ 3 none 2 47) (y1 : Int64) (σ : St) : RX emV shM α D cA z 3 σ 0 [(0, .ref (α 0)), (1, .long y1)] [] (f_X11_must_ y1 σ) := by
  unfold f_X11_must_
  refine rx_aload_n C 0 dX11_must__0 rfl rfl ?_
  refine rx_getI C (k := 8) sm_0 fc_X11 (by decide) rfl lk_X11_36 dX11_must__1 ?_
  refine rx_if_le C (tgt := 8) dX11_must__4 (by decide) (fun _ => ?_) (fun _ => ?_)
  · refine rx_aload_n C 0 dX11_must__8 rfl rfl ?_
    refine rx_lload_n C 1 dX11_must__9 rfl rfl ?_
    refine rx_callVi C [.long y1] [] (m_X11_isWord z.l C.inj y1 σ) mv_X11_isWord lk_X11_325 sm_0 rfl rfl rfl (Nat.le_of_ble_eq_true rfl) ⟨Nat.le_of_ble_eq_true rfl, Nat.le_of_ble_eq_true rfl⟩ dX11_must__10 (fun q4 => ?_)
    refine rx_if_ne C (tgt := 25) dX11_must__13 (by decide) (fun _ => ?_) (fun _ => ?_)
    · refine rx_aload_n C 0 dX11_must__16 rfl rfl ?_
      refine rx_iconst C dX11_must__17 ic_1 ?_
      refine rx_aload_n C 0 dX11_must__18 rfl rfl ?_
      refine rx_getI C (k := 4) sm_0 fc_X11 (by decide) rfl lk_X11_23 dX11_must__19 ?_
      refine rx_callVv C [.int (1 : Int32), .int (gI q4.2 0 4)] [] (m_X11_blame z.l C.inj (1 : Int32) (gI q4.2 0 4) q4.2) mv_X11_blame lk_X11_249 sm_0 rfl rfl rfl (Nat.le_of_ble_eq_true rfl) ⟨Nat.le_of_ble_eq_true rfl, Nat.le_of_ble_eq_true rfl⟩ dX11_must__22 (fun q5 => ?_)
      exact RX.loc (w_X11_must__25 C q5.2) [0] rfl
    · exact RX.loc (w_X11_must__25 C q4.2) [0] rfl
  · exact rx_vret C dX11_must__7
theorem m_X11_must_ (l : Launch) {α : Nat → Nat} {D : va_G} {cA : Nat → ClassId} (hin : inj shM.length α) (y1 : Int64) (σ : St) : CT shM l yX11_must_ cX11_must_ 3 none 2 47 emV α D cA [.ref (α 0), .long y1] σ (f_X11_must_ y1 σ) := ct_of rfl (Nat.le_of_ble_eq_true rfl) hin (fun z _ C => w_X11_must__e C y1 σ)
set_option maxRecDepth 100000 in
set_option maxHeartbeats 4000000 in
theorem w_X11_fresh_95 {α : Nat → Nat} {D : va_G} {cA : Nat → ClassId} {z : Cz} (C : CX shM α D cA z RX11 cX11_fresh 3 (some .long) 2 48) (y1 : Int64) (σ : St) : RX emL shM α D cA z 3 σ 95 [(1, .long y1)] [] (f_X11_fresh_95 y1 σ) := by
  unfold f_X11_fresh_95
  refine rx_lload_n C 0 dX11_fresh_95 rfl rfl ?_
  exact rx_lret C dX11_fresh_96
set_option maxRecDepth 100000 in
set_option maxHeartbeats 4000000 in
theorem w_X11_fresh_79 {α : Nat → Nat} {D : va_G} {cA : Nat → ClassId} {z : Cz} (C : CX shM α D cA z RX11 cX11_fresh 3 (some .long) 2 48) (σ : St) : RX emL shM α D cA z 3 σ 79 [(0, .ref (α 0))] [] (f_X11_fresh_79 σ) := by
  unfold f_X11_fresh_79
  refine rx_aload_n C 0 dX11_fresh_79 rfl rfl ?_
  refine rx_getL C (k := 7) sm_0 fc_X11 (by decide) rfl lk_X11_32 dX11_fresh_80 ?_
  refine rx_ltl (fun w8 => ?_)
  refine rx_lstore_n C [(1, .long w8), (0, .ref (α 0))] dX11_fresh_83 rfl (by decide) rfl ?_
  refine rx_aload_n C 1 dX11_fresh_84 rfl rfl ?_
  refine rx_getI C (k := 8) sm_0 fc_X11 (by decide) rfl lk_X11_36 dX11_fresh_85 ?_
  refine rx_if_ne C (tgt := 95) dX11_fresh_88 (by decide) (fun _ => ?_) (fun _ => ?_)
  · refine rx_aload_n C 1 dX11_fresh_91 rfl rfl ?_
    refine rx_callVv C [] [] (m_X11_ahead z.l C.inj σ) mv_X11_ahead lk_X11_256 sm_0 rfl rfl rfl (Nat.le_of_ble_eq_true rfl) ⟨Nat.le_of_ble_eq_true rfl, Nat.le_of_ble_eq_true rfl⟩ dX11_fresh_92 (fun q9 => ?_)
    exact RX.loc (w_X11_fresh_95 C w8 q9.2) [0] rfl
  · exact RX.loc (w_X11_fresh_95 C w8 σ) [0] rfl
set_option maxRecDepth 100000 in
set_option maxHeartbeats 4000000 in
theorem w_X11_fresh_73 {α : Nat → Nat} {D : va_G} {cA : Nat → ClassId} {z : Cz} (C : CX shM α D cA z RX11 cX11_fresh 3 (some .long) 2 48) (k_39 : Int32 → St → Option (Int64 × St)) (hk_39 : ∀ (x1 : Int32) (σ : St), RX emL shM α D cA z 3 σ 39 [(0, .ref (α 0)), (1, .int x1)] [] (k_39 x1 σ)) (x1 : Int32) (σ : St) : RX emL shM α D cA z 3 σ 73 [(0, .ref (α 0)), (1, .int x1)] [] (f_X11_fresh_73 k_39 x1 σ) := by
  unfold f_X11_fresh_73
  refine rx_iinc C (k0 := 1) (v := x1 + (1 : Int32)) [(1, .int (x1 + (1 : Int32))), (0, .ref (α 0))] dX11_fresh_73 rfl (congrArg _ ic_1) (by decide) rfl ?_
  refine rx_goto C (tgt := 39) dX11_fresh_76 (by decide) ?_
  exact RX.loc (hk_39 (x1 + (1 : Int32)) σ) [1, 0] rfl
set_option maxRecDepth 100000 in
set_option maxHeartbeats 4000000 in
theorem w_X11_fresh_39 {α : Nat → Nat} {D : va_G} {cA : Nat → ClassId} {z : Cz} (C : CX shM α D cA z RX11 cX11_fresh 3 (some .long) 2 48) : ∀ (n : Nat) (x1 : Int32) (σ : St), RX emL shM α D cA z 3 σ 39 [(0, .ref (α 0)), (1, .int x1)] [] (f_X11_fresh_39 n x1 σ) := by
  intro n
  induction n with
  | zero => intros; exact rx_none
  | succ n hk_39 =>
    intro x1 σ
    rw [f_X11_fresh_39.eq_2]
    refine rx_iload_n C 1 dX11_fresh_39 rfl rfl ?_
    refine rx_iconst C dX11_fresh_40 ic_2 ?_
    refine rx_icmp_gt C (tgt := 79) dX11_fresh_41 (by decide) (fun _ => ?_) (fun _ => ?_)
    · exact RX.loc (w_X11_fresh_79 C σ) [0] rfl
    · refine rx_aload_n C 0 dX11_fresh_44 rfl rfl ?_
      refine rx_getI C (k := 8) sm_0 fc_X11 (by decide) rfl lk_X11_36 dX11_fresh_45 ?_
      refine rx_if_ne C (tgt := 79) dX11_fresh_48 (by decide) (fun _ => ?_) (fun _ => ?_)
      · refine rx_aload_n C 0 dX11_fresh_51 rfl rfl ?_
        refine rx_iload_n C 1 dX11_fresh_52 rfl rfl ?_
        refine rx_aload_n C 0 dX11_fresh_53 rfl rfl ?_
        refine rx_getL C (k := 7) sm_0 fc_X11 (by decide) rfl lk_X11_32 dX11_fresh_54 ?_
        refine rx_callVi C [.int x1, .long (gL σ 0 7)] [] (m_X11_named z.l C.inj x1 (gL σ 0 7) σ) mv_X11_named lk_X11_347 sm_0 rfl rfl rfl (Nat.le_of_ble_eq_true rfl) ⟨Nat.le_of_ble_eq_true rfl, Nat.le_of_ble_eq_true rfl⟩ dX11_fresh_57 (fun q10 => ?_)
        refine rx_iconst C dX11_fresh_60 ic_m1 ?_
        refine rx_icmp_eq C (tgt := 73) dX11_fresh_61 (by decide) (fun _ => ?_) (fun _ => ?_)
        · exact RX.loc (w_X11_fresh_73 C (f_X11_fresh_39 n) hk_39 x1 q10.2) [0, 1] rfl
        · refine rx_aload_n C 0 dX11_fresh_64 rfl rfl ?_
          refine rx_iconst C dX11_fresh_65 ic_2 ?_
          refine rx_aload_n C 0 dX11_fresh_66 rfl rfl ?_
          refine rx_getI C (k := 4) sm_0 fc_X11 (by decide) rfl lk_X11_23 dX11_fresh_67 ?_
          refine rx_callVv C [.int (2 : Int32), .int (gI q10.2 0 4)] [] (m_X11_blame z.l C.inj (2 : Int32) (gI q10.2 0 4) q10.2) mv_X11_blame lk_X11_249 sm_0 rfl rfl rfl (Nat.le_of_ble_eq_true rfl) ⟨Nat.le_of_ble_eq_true rfl, Nat.le_of_ble_eq_true rfl⟩ dX11_fresh_70 (fun q11 => ?_)
          exact RX.loc (w_X11_fresh_73 C (f_X11_fresh_39 n) hk_39 x1 q11.2) [0, 1] rfl
      · exact RX.loc (w_X11_fresh_79 C σ) [0] rfl
set_option maxRecDepth 100000 in
set_option maxHeartbeats 4000000 in
theorem w_X11_fresh_37 {α : Nat → Nat} {D : va_G} {cA : Nat → ClassId} {z : Cz} (C : CX shM α D cA z RX11 cX11_fresh 3 (some .long) 2 48) (σ : St) : RX emL shM α D cA z 3 σ 37 [(0, .ref (α 0))] [] (f_X11_fresh_37 σ) := by
  unfold f_X11_fresh_37
  refine rx_iconst C dX11_fresh_37 ic_0 ?_
  refine rx_istore_n C [(1, .int (0 : Int32)), (0, .ref (α 0))] dX11_fresh_38 rfl (by decide) rfl ?_
  exact RX.loc (w_X11_fresh_39 C FU (0 : Int32) σ) [1, 0] rfl
set_option maxRecDepth 100000 in
set_option maxHeartbeats 4000000 in
theorem w_X11_fresh_28 {α : Nat → Nat} {D : va_G} {cA : Nat → ClassId} {z : Cz} (C : CX shM α D cA z RX11 cX11_fresh 3 (some .long) 2 48) (σ : St) : RX emL shM α D cA z 3 σ 28 [(0, .ref (α 0))] [] (f_X11_fresh_28 σ) := by
  unfold f_X11_fresh_28
  refine rx_aload_n C 0 dX11_fresh_28 rfl rfl ?_
  refine rx_iconst C dX11_fresh_29 ic_1 ?_
  refine rx_aload_n C 0 dX11_fresh_30 rfl rfl ?_
  refine rx_getI C (k := 4) sm_0 fc_X11 (by decide) rfl lk_X11_23 dX11_fresh_31 ?_
  refine rx_callVv C [.int (1 : Int32), .int (gI σ 0 4)] [] (m_X11_blame z.l C.inj (1 : Int32) (gI σ 0 4) σ) mv_X11_blame lk_X11_249 sm_0 rfl rfl rfl (Nat.le_of_ble_eq_true rfl) ⟨Nat.le_of_ble_eq_true rfl, Nat.le_of_ble_eq_true rfl⟩ dX11_fresh_34 (fun q12 => ?_)
  exact RX.loc (w_X11_fresh_37 C q12.2) [0] rfl
set_option maxRecDepth 100000 in
set_option maxHeartbeats 4000000 in
theorem w_X11_fresh_e {α : Nat → Nat} {D : va_G} {cA : Nat → ClassId} {z : Cz} (C : CX shM α D cA z RX11 cX11_fresh 3 (some .long) 2 48) (σ : St) : RX emL shM α D cA z 3 σ 0 [(0, .ref (α 0))] [] (f_X11_fresh σ) := by
  unfold f_X11_fresh
  refine rx_aload_n C 0 dX11_fresh_0 rfl rfl ?_
  refine rx_getI C (k := 8) sm_0 fc_X11 (by decide) rfl lk_X11_36 dX11_fresh_1 ?_
  refine rx_if_le C (tgt := 9) dX11_fresh_4 (by decide) (fun _ => ?_) (fun _ => ?_)
  · refine rx_aload_n C 0 dX11_fresh_9 rfl rfl ?_
    refine rx_getI C (k := 3) sm_0 fc_X11 (by decide) rfl lk_X11_20 dX11_fresh_10 ?_
    refine rx_iconst C dX11_fresh_13 ic_1 ?_
    refine rx_icmp_ne C (tgt := 28) dX11_fresh_14 (by decide) (fun _ => ?_) (fun _ => ?_)
    · refine rx_aload_n C 0 dX11_fresh_17 rfl rfl ?_
      refine rx_aload_n C 0 dX11_fresh_18 rfl rfl ?_
      refine rx_getL C (k := 7) sm_0 fc_X11 (by decide) rfl lk_X11_32 dX11_fresh_19 ?_
      refine rx_callVi C [.long (gL σ 0 7)] [] (m_X11_isOwn z.l C.inj (gL σ 0 7) σ) mv_X11_isOwn lk_X11_344 sm_0 rfl rfl rfl (Nat.le_of_ble_eq_true rfl) ⟨Nat.le_of_ble_eq_true rfl, Nat.le_of_ble_eq_true rfl⟩ dX11_fresh_22 (fun q7 => ?_)
      refine rx_if_eq C (tgt := 37) dX11_fresh_25 (by decide) (fun _ => ?_) (fun _ => ?_)
      · exact RX.loc (w_X11_fresh_37 C q7.2) [0] rfl
      · exact RX.loc (w_X11_fresh_28 C q7.2) [0] rfl
    · exact RX.loc (w_X11_fresh_28 C σ) [0] rfl
  · refine rx_lconst C dX11_fresh_7 lc_0 ?_
    exact rx_lret C dX11_fresh_8
theorem m_X11_fresh (l : Launch) {α : Nat → Nat} {D : va_G} {cA : Nat → ClassId} (hin : inj shM.length α) (σ : St) : CT shM l yX11_fresh cX11_fresh 3 (some .long) 2 48 emL α D cA [.ref (α 0)] σ (f_X11_fresh σ) := ct_of rfl (Nat.le_of_ble_eq_true rfl) hin (fun z _ C => w_X11_fresh_e C σ)
set_option maxRecDepth 100000 in
set_option maxHeartbeats 4000000 in
theorem w_X11_asked_102 {α : Nat → Nat} {D : va_G} {cA : Nat → ClassId} {z : Cz} (C : CX shM α D cA z RX11 cX11_asked 3 (some .int) 2 48) (s0 : Int32) (σ : St) : RX emI shM α D cA z 3 σ 102 [] [.int s0] (f_X11_asked_102 s0 σ) := by
  unfold f_X11_asked_102
  exact rx_iret C dX11_asked_102
set_option maxRecDepth 100000 in
set_option maxHeartbeats 4000000 in
theorem w_X11_asked_90 {α : Nat → Nat} {D : va_G} {cA : Nat → ClassId} {z : Cz} (C : CX shM α D cA z RX11 cX11_asked 3 (some .int) 2 48) (x2 : Int32) (σ : St) : RX emI shM α D cA z 3 σ 90 [(0, .ref (α 0)), (2, .int x2)] [] (f_X11_asked_90 x2 σ) := by
  unfold f_X11_asked_90
  refine rx_aload_n C 0 dX11_asked_90 rfl rfl ?_
  refine rx_getI C (k := 8) sm_0 fc_X11 (by decide) rfl lk_X11_36 dX11_asked_91 ?_
  refine rx_if_le C (tgt := 101) dX11_asked_94 (by decide) (fun _ => ?_) (fun _ => ?_)
  · refine rx_iload_n C 1 dX11_asked_101 rfl rfl ?_
    exact RX.loc (w_X11_asked_102 C x2 σ) [] rfl
  · refine rx_iconst C dX11_asked_97 ic_0 ?_
    refine rx_goto C (tgt := 102) dX11_asked_98 (by decide) ?_
    exact RX.loc (w_X11_asked_102 C (0 : Int32) σ) [] rfl
set_option maxRecDepth 100000 in
set_option maxHeartbeats 4000000 in
theorem w_X11_asked_79 {α : Nat → Nat} {D : va_G} {cA : Nat → ClassId} {z : Cz} (C : CX shM α D cA z RX11 cX11_asked 3 (some .int) 2 48) (x2 : Int32) (σ : St) : RX emI shM α D cA z 3 σ 79 [(0, .ref (α 0)), (2, .int x2)] [] (f_X11_asked_79 x2 σ) := by
  unfold f_X11_asked_79
  refine rx_aload_n C 0 dX11_asked_79 rfl rfl ?_
  refine rx_getI C (k := 8) sm_0 fc_X11 (by decide) rfl lk_X11_36 dX11_asked_80 ?_
  refine rx_if_ne C (tgt := 90) dX11_asked_83 (by decide) (fun _ => ?_) (fun _ => ?_)
  · refine rx_aload_n C 0 dX11_asked_86 rfl rfl ?_
    refine rx_callVv C [] [] (m_X11_ahead z.l C.inj σ) mv_X11_ahead lk_X11_256 sm_0 rfl rfl rfl (Nat.le_of_ble_eq_true rfl) ⟨Nat.le_of_ble_eq_true rfl, Nat.le_of_ble_eq_true rfl⟩ dX11_asked_87 (fun q9 => ?_)
    exact RX.loc (w_X11_asked_90 C x2 q9.2) [0, 1] rfl
  · exact RX.loc (w_X11_asked_90 C x2 σ) [0, 1] rfl
set_option maxRecDepth 100000 in
set_option maxHeartbeats 4000000 in
theorem w_X11_asked_57 {α : Nat → Nat} {D : va_G} {cA : Nat → ClassId} {z : Cz} (C : CX shM α D cA z RX11 cX11_asked 3 (some .int) 2 48) (s0 : Int32) (σ : St) : RX emI shM α D cA z 3 σ 57 [(0, .ref (α 0))] [.int s0] (f_X11_asked_57 s0 σ) := by
  unfold f_X11_asked_57
  refine rx_istore_n C [(2, .int s0), (0, .ref (α 0))] dX11_asked_57 rfl (by decide) rfl ?_
  refine rx_aload_n C 1 dX11_asked_58 rfl rfl ?_
  refine rx_getI C (k := 8) sm_0 fc_X11 (by decide) rfl lk_X11_36 dX11_asked_59 ?_
  refine rx_if_ne C (tgt := 79) dX11_asked_62 (by decide) (fun _ => ?_) (fun _ => ?_)
  · refine rx_iload_n C 0 dX11_asked_65 rfl rfl ?_
    refine rx_iconst C dX11_asked_66 ic_m1 ?_
    refine rx_icmp_ne C (tgt := 79) dX11_asked_67 (by decide) (fun _ => ?_) (fun _ => ?_)
    · refine rx_aload_n C 1 dX11_asked_70 rfl rfl ?_
      refine rx_iconst C dX11_asked_71 ic_3 ?_
      refine rx_aload_n C 1 dX11_asked_72 rfl rfl ?_
      refine rx_getI C (k := 4) sm_0 fc_X11 (by decide) rfl lk_X11_23 dX11_asked_73 ?_
      refine rx_callVv C [.int (3 : Int32), .int (gI σ 0 4)] [] (m_X11_blame z.l C.inj (3 : Int32) (gI σ 0 4) σ) mv_X11_blame lk_X11_249 sm_0 rfl rfl rfl (Nat.le_of_ble_eq_true rfl) ⟨Nat.le_of_ble_eq_true rfl, Nat.le_of_ble_eq_true rfl⟩ dX11_asked_76 (fun q8 => ?_)
      exact RX.loc (w_X11_asked_79 C s0 q8.2) [1, 0] rfl
    · exact RX.loc (w_X11_asked_79 C s0 σ) [1, 0] rfl
  · exact RX.loc (w_X11_asked_79 C s0 σ) [1, 0] rfl
set_option maxRecDepth 100000 in
set_option maxHeartbeats 4000000 in
theorem w_X11_asked_37 {α : Nat → Nat} {D : va_G} {cA : Nat → ClassId} {z : Cz} (C : CX shM α D cA z RX11 cX11_asked 3 (some .int) 2 48) (x1 : Int32) (σ : St) : RX emI shM α D cA z 3 σ 37 [(0, .ref (α 0)), (1, .int x1)] [] (f_X11_asked_37 x1 σ) := by
  unfold f_X11_asked_37
  refine rx_aload_n C 0 dX11_asked_37 rfl rfl ?_
  refine rx_getI C (k := 8) sm_0 fc_X11 (by decide) rfl lk_X11_36 dX11_asked_38 ?_
  refine rx_if_le C (tgt := 48) dX11_asked_41 (by decide) (fun _ => ?_) (fun _ => ?_)
  · refine rx_aload_n C 0 dX11_asked_48 rfl rfl ?_
    refine rx_iload_n C 1 dX11_asked_49 rfl rfl ?_
    refine rx_aload_n C 0 dX11_asked_50 rfl rfl ?_
    refine rx_getL C (k := 7) sm_0 fc_X11 (by decide) rfl lk_X11_32 dX11_asked_51 ?_
    refine rx_callVi C [.int x1, .long (gL σ 0 7)] [] (m_X11_named z.l C.inj x1 (gL σ 0 7) σ) mv_X11_named lk_X11_347 sm_0 rfl rfl rfl (Nat.le_of_ble_eq_true rfl) ⟨Nat.le_of_ble_eq_true rfl, Nat.le_of_ble_eq_true rfl⟩ dX11_asked_54 (fun q7 => ?_)
    exact RX.loc (w_X11_asked_57 C q7.1 q7.2) [0] rfl
  · refine rx_iconst C dX11_asked_44 ic_0 ?_
    refine rx_goto C (tgt := 57) dX11_asked_45 (by decide) ?_
    exact RX.loc (w_X11_asked_57 C (0 : Int32) σ) [0] rfl
set_option maxRecDepth 100000 in
set_option maxHeartbeats 4000000 in
theorem w_X11_asked_28 {α : Nat → Nat} {D : va_G} {cA : Nat → ClassId} {z : Cz} (C : CX shM α D cA z RX11 cX11_asked 3 (some .int) 2 48) (x1 : Int32) (σ : St) : RX emI shM α D cA z 3 σ 28 [(0, .ref (α 0)), (1, .int x1)] [] (f_X11_asked_28 x1 σ) := by
  unfold f_X11_asked_28
  refine rx_aload_n C 0 dX11_asked_28 rfl rfl ?_
  refine rx_iconst C dX11_asked_29 ic_1 ?_
  refine rx_aload_n C 0 dX11_asked_30 rfl rfl ?_
  refine rx_getI C (k := 4) sm_0 fc_X11 (by decide) rfl lk_X11_23 dX11_asked_31 ?_
  refine rx_callVv C [.int (1 : Int32), .int (gI σ 0 4)] [] (m_X11_blame z.l C.inj (1 : Int32) (gI σ 0 4) σ) mv_X11_blame lk_X11_249 sm_0 rfl rfl rfl (Nat.le_of_ble_eq_true rfl) ⟨Nat.le_of_ble_eq_true rfl, Nat.le_of_ble_eq_true rfl⟩ dX11_asked_34 (fun q10 => ?_)
  exact RX.loc (w_X11_asked_37 C x1 q10.2) [0, 1] rfl
set_option maxRecDepth 100000 in
set_option maxHeartbeats 4000000 in
theorem w_X11_asked_e {α : Nat → Nat} {D : va_G} {cA : Nat → ClassId} {z : Cz} (C : CX shM α D cA z RX11 cX11_asked 3 (some .int) 2 48) (x1 : Int32) (σ : St) : RX emI shM α D cA z 3 σ 0 [(0, .ref (α 0)), (1, .int x1)] [] (f_X11_asked x1 σ) := by
  unfold f_X11_asked
  refine rx_aload_n C 0 dX11_asked_0 rfl rfl ?_
  refine rx_getI C (k := 8) sm_0 fc_X11 (by decide) rfl lk_X11_36 dX11_asked_1 ?_
  refine rx_if_le C (tgt := 9) dX11_asked_4 (by decide) (fun _ => ?_) (fun _ => ?_)
  · refine rx_aload_n C 0 dX11_asked_9 rfl rfl ?_
    refine rx_getI C (k := 3) sm_0 fc_X11 (by decide) rfl lk_X11_20 dX11_asked_10 ?_
    refine rx_iconst C dX11_asked_13 ic_1 ?_
    refine rx_icmp_ne C (tgt := 28) dX11_asked_14 (by decide) (fun _ => ?_) (fun _ => ?_)
    · refine rx_aload_n C 0 dX11_asked_17 rfl rfl ?_
      refine rx_aload_n C 0 dX11_asked_18 rfl rfl ?_
      refine rx_getL C (k := 7) sm_0 fc_X11 (by decide) rfl lk_X11_32 dX11_asked_19 ?_
      refine rx_callVi C [.long (gL σ 0 7)] [] (m_X11_isOwn z.l C.inj (gL σ 0 7) σ) mv_X11_isOwn lk_X11_344 sm_0 rfl rfl rfl (Nat.le_of_ble_eq_true rfl) ⟨Nat.le_of_ble_eq_true rfl, Nat.le_of_ble_eq_true rfl⟩ dX11_asked_22 (fun q6 => ?_)
      refine rx_if_eq C (tgt := 37) dX11_asked_25 (by decide) (fun _ => ?_) (fun _ => ?_)
      · exact RX.loc (w_X11_asked_37 C x1 q6.2) [0, 1] rfl
      · exact RX.loc (w_X11_asked_28 C x1 q6.2) [0, 1] rfl
    · exact RX.loc (w_X11_asked_28 C x1 σ) [0, 1] rfl
  · refine rx_iconst C dX11_asked_7 ic_0 ?_
    exact rx_iret C dX11_asked_8
theorem m_X11_asked (l : Launch) {α : Nat → Nat} {D : va_G} {cA : Nat → ClassId} (hin : inj shM.length α) (x1 : Int32) (σ : St) : CT shM l yX11_asked cX11_asked 3 (some .int) 2 48 emI α D cA [.ref (α 0), .int x1] σ (f_X11_asked x1 σ) := ct_of rfl (Nat.le_of_ble_eq_true rfl) hin (fun z _ C => w_X11_asked_e C x1 σ)
set_option maxRecDepth 100000 in
set_option maxHeartbeats 4000000 in
theorem w_X11_oneLetter_68 {α : Nat → Nat} {D : va_G} {cA : Nat → ClassId} {z : Cz} (C : CX shM α D cA z RX11 cX11_oneLetter 2 (some .int) 2 47) (x1 : Int32) (σ : St) : RX emI shM α D cA z 2 σ 68 [(1, .int x1)] [] (f_X11_oneLetter_68 x1 σ) := by
  unfold f_X11_oneLetter_68
  refine rx_iload_n C 0 dX11_oneLetter_68 rfl rfl ?_
  exact rx_iret C dX11_oneLetter_69
set_option maxRecDepth 100000 in
set_option maxHeartbeats 4000000 in
theorem w_X11_oneLetter_56 {α : Nat → Nat} {D : va_G} {cA : Nat → ClassId} {z : Cz} (C : CX shM α D cA z RX11 cX11_oneLetter 2 (some .int) 2 47) (s0 : Int32) (σ : St) : RX emI shM α D cA z 2 σ 56 [(0, .ref (α 0))] [.int s0] (f_X11_oneLetter_56 s0 σ) := by
  unfold f_X11_oneLetter_56
  refine rx_istore_n C [(1, .int s0), (0, .ref (α 0))] dX11_oneLetter_56 rfl (by decide) rfl ?_
  refine rx_aload_n C 1 dX11_oneLetter_57 rfl rfl ?_
  refine rx_getI C (k := 8) sm_0 fc_X11 (by decide) rfl lk_X11_36 dX11_oneLetter_58 ?_
  refine rx_if_ne C (tgt := 68) dX11_oneLetter_61 (by decide) (fun _ => ?_) (fun _ => ?_)
  · refine rx_aload_n C 1 dX11_oneLetter_64 rfl rfl ?_
    refine rx_callVv C [] [] (m_X11_ahead z.l C.inj σ) mv_X11_ahead lk_X11_256 sm_0 rfl rfl rfl (Nat.le_of_ble_eq_true rfl) ⟨Nat.le_of_ble_eq_true rfl, Nat.le_of_ble_eq_true rfl⟩ dX11_oneLetter_65 (fun q3 => ?_)
    exact RX.loc (w_X11_oneLetter_68 C s0 q3.2) [0] rfl
  · exact RX.loc (w_X11_oneLetter_68 C s0 σ) [0] rfl
set_option maxRecDepth 100000 in
set_option maxHeartbeats 4000000 in
theorem w_X11_oneLetter_37 {α : Nat → Nat} {D : va_G} {cA : Nat → ClassId} {z : Cz} (C : CX shM α D cA z RX11 cX11_oneLetter 2 (some .int) 2 47) (σ : St) : RX emI shM α D cA z 2 σ 37 [(0, .ref (α 0))] [] (f_X11_oneLetter_37 σ) := by
  unfold f_X11_oneLetter_37
  refine rx_aload_n C 0 dX11_oneLetter_37 rfl rfl ?_
  refine rx_getI C (k := 8) sm_0 fc_X11 (by decide) rfl lk_X11_36 dX11_oneLetter_38 ?_
  refine rx_if_le C (tgt := 48) dX11_oneLetter_41 (by decide) (fun _ => ?_) (fun _ => ?_)
  · refine rx_aload_n C 0 dX11_oneLetter_48 rfl rfl ?_
    refine rx_getL C (k := 7) sm_0 fc_X11 (by decide) rfl lk_X11_32 dX11_oneLetter_49 ?_
    refine rx_l2i C dX11_oneLetter_52 ?_
    refine rx_bipush C dX11_oneLetter_53 bp_97 ?_
    refine rx_isub C dX11_oneLetter_55 ?_
    exact RX.loc (w_X11_oneLetter_56 C (((gL σ 0 7).toInt32) - (97 : Int32)) σ) [0] rfl
  · refine rx_iconst C dX11_oneLetter_44 ic_0 ?_
    refine rx_goto C (tgt := 56) dX11_oneLetter_45 (by decide) ?_
    exact RX.loc (w_X11_oneLetter_56 C (0 : Int32) σ) [0] rfl
set_option maxRecDepth 100000 in
set_option maxHeartbeats 4000000 in
theorem w_X11_oneLetter_28 {α : Nat → Nat} {D : va_G} {cA : Nat → ClassId} {z : Cz} (C : CX shM α D cA z RX11 cX11_oneLetter 2 (some .int) 2 47) (σ : St) : RX emI shM α D cA z 2 σ 28 [(0, .ref (α 0))] [] (f_X11_oneLetter_28 σ) := by
  unfold f_X11_oneLetter_28
  refine rx_aload_n C 0 dX11_oneLetter_28 rfl rfl ?_
  refine rx_iconst C dX11_oneLetter_29 ic_1 ?_
  refine rx_aload_n C 0 dX11_oneLetter_30 rfl rfl ?_
  refine rx_getI C (k := 4) sm_0 fc_X11 (by decide) rfl lk_X11_23 dX11_oneLetter_31 ?_
  refine rx_callVv C [.int (1 : Int32), .int (gI σ 0 4)] [] (m_X11_blame z.l C.inj (1 : Int32) (gI σ 0 4) σ) mv_X11_blame lk_X11_249 sm_0 rfl rfl rfl (Nat.le_of_ble_eq_true rfl) ⟨Nat.le_of_ble_eq_true rfl, Nat.le_of_ble_eq_true rfl⟩ dX11_oneLetter_34 (fun q4 => ?_)
  exact RX.loc (w_X11_oneLetter_37 C q4.2) [0] rfl
set_option maxRecDepth 100000 in
set_option maxHeartbeats 4000000 in
theorem w_X11_oneLetter_e {α : Nat → Nat} {D : va_G} {cA : Nat → ClassId} {z : Cz} (C : CX shM α D cA z RX11 cX11_oneLetter 2 (some .int) 2 47) (σ : St) : RX emI shM α D cA z 2 σ 0 [(0, .ref (α 0))] [] (f_X11_oneLetter σ) := by
  unfold f_X11_oneLetter
  refine rx_aload_n C 0 dX11_oneLetter_0 rfl rfl ?_
  refine rx_getI C (k := 8) sm_0 fc_X11 (by decide) rfl lk_X11_36 dX11_oneLetter_1 ?_
  refine rx_if_le C (tgt := 9) dX11_oneLetter_4 (by decide) (fun _ => ?_) (fun _ => ?_)
  · refine rx_aload_n C 0 dX11_oneLetter_9 rfl rfl ?_
    refine rx_getI C (k := 3) sm_0 fc_X11 (by decide) rfl lk_X11_20 dX11_oneLetter_10 ?_
    refine rx_iconst C dX11_oneLetter_13 ic_1 ?_
    refine rx_icmp_ne C (tgt := 28) dX11_oneLetter_14 (by decide) (fun _ => ?_) (fun _ => ?_)
    · refine rx_aload_n C 0 dX11_oneLetter_17 rfl rfl ?_
      refine rx_getL C (k := 7) sm_0 fc_X11 (by decide) rfl lk_X11_32 dX11_oneLetter_18 ?_
      refine rx_ldc2_w C lk_X11_351 dX11_oneLetter_21 ?_
      refine rx_lcmp C dX11_oneLetter_24 ?_
      refine rx_if_le C (tgt := 37) dX11_oneLetter_25 (by decide) (fun _ => ?_) (fun _ => ?_)
      · exact RX.loc (w_X11_oneLetter_37 C σ) [0] rfl
      · exact RX.loc (w_X11_oneLetter_28 C σ) [0] rfl
    · exact RX.loc (w_X11_oneLetter_28 C σ) [0] rfl
  · refine rx_iconst C dX11_oneLetter_7 ic_0 ?_
    exact rx_iret C dX11_oneLetter_8
theorem m_X11_oneLetter (l : Launch) {α : Nat → Nat} {D : va_G} {cA : Nat → ClassId} (hin : inj shM.length α) (σ : St) : CT shM l yX11_oneLetter cX11_oneLetter 2 (some .int) 2 47 emI α D cA [.ref (α 0)] σ (f_X11_oneLetter σ) := ct_of rfl (Nat.le_of_ble_eq_true rfl) hin (fun z _ C => w_X11_oneLetter_e C σ)
set_option maxRecDepth 100000 in
set_option maxHeartbeats 4000000 in
theorem w_X11_weighs_44 {α : Nat → Nat} {D : va_G} {cA : Nat → ClassId} {z : Cz} (C : CX shM α D cA z RX11 cX11_weighs 3 none 3 70) (σ : St) : RX emV shM α D cA z 3 σ 44 [] [] (f_X11_weighs_44 σ) := by
  unfold f_X11_weighs_44
  exact rx_vret C dX11_weighs_44
set_option maxRecDepth 100000 in
set_option maxHeartbeats 4000000 in
theorem w_X11_weighs_e {α : Nat → Nat} {D : va_G} {cA : Nat → ClassId} {z : Cz} (C : CX shM α D cA z RX11 cX11_weighs 3 none 3 70) (σ : St) : RX emV shM α D cA z 3 σ 0 [(0, .ref (α 0))] [] (f_X11_weighs σ) := by
  unfold f_X11_weighs
  refine rx_aload_n C 0 dX11_weighs_0 rfl rfl ?_
  refine rx_iconst C dX11_weighs_1 ic_0 ?_
  refine rx_callVi C [.int (0 : Int32)] [] (m_X11_counts z.l C.inj (0 : Int32) σ) mv_X11_counts lk_X11_353 sm_0 rfl rfl rfl (Nat.le_of_ble_eq_true rfl) ⟨Nat.le_of_ble_eq_true rfl, Nat.le_of_ble_eq_true rfl⟩ dX11_weighs_2 (fun q5 => ?_)
  refine rx_if_ne C (tgt := 9) dX11_weighs_5 (by decide) (fun _ => ?_) (fun _ => ?_)
  · exact rx_vret C dX11_weighs_8
  · refine rx_aload_n C 0 dX11_weighs_9 rfl rfl ?_
    refine rx_callVi C [] [] (m_X11_oneLetter z.l C.inj q5.2) mv_X11_oneLetter lk_X11_357 sm_0 rfl rfl rfl (Nat.le_of_ble_eq_true rfl) ⟨Nat.le_of_ble_eq_true rfl, Nat.le_of_ble_eq_true rfl⟩ dX11_weighs_10 (fun q6 => ?_)
    refine rx_istore_n C [(1, .int q6.1), (0, .ref (α 0))] dX11_weighs_13 rfl (by decide) rfl ?_
    refine rx_aload_n C 1 dX11_weighs_14 rfl rfl ?_
    refine rx_iconst C dX11_weighs_15 ic_1 ?_
    refine rx_bipush C dX11_weighs_16 bp_99 ?_
    refine rx_callVi C [.int (1 : Int32), .int (99 : Int32)] [] (m_X11_number z.l C.inj (1 : Int32) (99 : Int32) q6.2) mv_X11_number lk_X11_361 sm_0 rfl rfl rfl (Nat.le_of_ble_eq_true rfl) ⟨Nat.le_of_ble_eq_true rfl, Nat.le_of_ble_eq_true rfl⟩ dX11_weighs_18 (fun q7 => ?_)
    refine rx_istore_n C [(2, .int q7.1), (1, .int q6.1), (0, .ref (α 0))] dX11_weighs_21 rfl (by decide) rfl ?_
    refine rx_aload_n C 2 dX11_weighs_22 rfl rfl ?_
    refine rx_getI C (k := 8) sm_0 fc_X11 (by decide) rfl lk_X11_36 dX11_weighs_23 ?_
    refine rx_if_ne C (tgt := 44) dX11_weighs_26 (by decide) (fun _ => ?_) (fun _ => ?_)
    · refine rx_aload_n C 2 dX11_weighs_29 rfl rfl ?_
      refine rx_getC C (k := 13) sm_0 fc_X11 (by decide) 2 rfl lk_X11_51 dX11_weighs_30 ?_
      refine rx_bipush C dX11_weighs_33 bp_26 ?_
      refine rx_aload_n C 2 dX11_weighs_35 rfl rfl ?_
      refine rx_getI C (k := 38) sm_0 fc_X11 (by decide) rfl lk_X11_127 dX11_weighs_36 ?_
      refine rx_imul C dX11_weighs_39 ?_
      refine rx_iload_n C 1 dX11_weighs_40 rfl rfl ?_
      refine rx_iadd C dX11_weighs_41 ?_
      refine rx_iload_n C 0 dX11_weighs_42 rfl rfl ?_
      refine rx_iast C (n := 52) sm_2 dX11_weighs_43 (fun _ => ?_)
      refine rx_lts (fun σ8 => ?_)
      exact RX.loc (w_X11_weighs_44 C σ8) [] rfl
    · exact RX.loc (w_X11_weighs_44 C q7.2) [] rfl
theorem m_X11_weighs (l : Launch) {α : Nat → Nat} {D : va_G} {cA : Nat → ClassId} (hin : inj shM.length α) (σ : St) : CT shM l yX11_weighs cX11_weighs 3 none 3 70 emV α D cA [.ref (α 0)] σ (f_X11_weighs σ) := ct_of rfl (Nat.le_of_ble_eq_true rfl) hin (fun z _ C => w_X11_weighs_e C σ)
set_option maxRecDepth 100000 in
set_option maxHeartbeats 4000000 in
theorem w_X11_person_143 {α : Nat → Nat} {D : va_G} {cA : Nat → ClassId} {z : Cz} (C : CX shM α D cA z RX11 cX11_person 2 none 3 70) (σ : St) : RX emV shM α D cA z 2 σ 143 [] [] (f_X11_person_143 σ) := by
  unfold f_X11_person_143
  exact rx_vret C dX11_person_143
set_option maxRecDepth 100000 in
set_option maxHeartbeats 4000000 in
theorem w_X11_person_20 {α : Nat → Nat} {D : va_G} {cA : Nat → ClassId} {z : Cz} (C : CX shM α D cA z RX11 cX11_person 2 none 3 70) (s1 : Int32) (σ : St) : RX emV shM α D cA z 2 σ 20 [(0, .ref (α 0))] [.int s1, .ref (α 0)] (f_X11_person_20 s1 σ) := by
  unfold f_X11_person_20
  refine rx_callVi C [.int s1] [] (m_X11_counts z.l C.inj s1 σ) mv_X11_counts lk_X11_353 sm_0 rfl rfl rfl (Nat.le_of_ble_eq_true rfl) ⟨Nat.le_of_ble_eq_true rfl, Nat.le_of_ble_eq_true rfl⟩ dX11_person_20 (fun q17 => ?_)
  refine rx_if_ne C (tgt := 27) dX11_person_23 (by decide) (fun _ => ?_) (fun _ => ?_)
  · exact rx_vret C dX11_person_26
  · refine rx_bipush C dX11_person_27 bp_8 ?_
    refine rx_aload_n C 0 dX11_person_29 rfl rfl ?_
    refine rx_getI C (k := 38) sm_0 fc_X11 (by decide) rfl lk_X11_127 dX11_person_30 ?_
    refine rx_imul C dX11_person_33 ?_
    refine rx_aload_n C 0 dX11_person_34 rfl rfl ?_
    refine rx_getC C (k := 14) sm_0 fc_X11 (by decide) 3 rfl lk_X11_54 dX11_person_35 ?_
    refine rx_aload_n C 0 dX11_person_38 rfl rfl ?_
    refine rx_getI C (k := 38) sm_0 fc_X11 (by decide) rfl lk_X11_127 dX11_person_39 ?_
    refine rx_iald C (n := 2) sm_3 dX11_person_42 (fun _ => ?_)
    refine rx_iadd C dX11_person_43 ?_
    refine rx_lti (fun w18 => ?_)
    refine rx_istore_n C [(1, .int w18), (0, .ref (α 0))] dX11_person_44 rfl (by decide) rfl ?_
    refine rx_aload_n C 1 dX11_person_45 rfl rfl ?_
    refine rx_getC C (k := 15) sm_0 fc_X11 (by decide) 4 rfl lk_X11_57 dX11_person_46 ?_
    refine rx_iload_n C 0 dX11_person_49 rfl rfl ?_
    refine rx_aload_n C 1 dX11_person_50 rfl rfl ?_
    refine rx_callVl C [] [.int w18, .ref (α 4)] (m_X11_fresh z.l C.inj q17.2) mv_X11_fresh lk_X11_365 sm_0 rfl rfl rfl (Nat.le_of_ble_eq_true rfl) ⟨Nat.le_of_ble_eq_true rfl, Nat.le_of_ble_eq_true rfl⟩ dX11_person_51 (fun q19 => ?_)
    refine rx_last C (n := 16) sm_4 dX11_person_54 (fun _ => ?_)
    refine rx_lts (fun σ20 => ?_)
    refine rx_aload_n C 1 dX11_person_55 rfl rfl ?_
    refine rx_ldc2_w C lk_X11_263 dX11_person_56 ?_
    refine rx_callVv C [.long (1651470958 : Int64)] [] (m_X11_must_ z.l C.inj (1651470958 : Int64) σ20) mv_X11_must_ lk_X11_369 sm_0 rfl rfl rfl (Nat.le_of_ble_eq_true rfl) ⟨Nat.le_of_ble_eq_true rfl, Nat.le_of_ble_eq_true rfl⟩ dX11_person_59 (fun q21 => ?_)
    refine rx_aload_n C 1 dX11_person_62 rfl rfl ?_
    refine rx_getC C (k := 16) sm_0 fc_X11 (by decide) 5 rfl lk_X11_61 dX11_person_63 ?_
    refine rx_iload_n C 0 dX11_person_66 rfl rfl ?_
    refine rx_aload_n C 1 dX11_person_67 rfl rfl ?_
    refine rx_iconst C dX11_person_68 ic_0 ?_
    refine rx_bipush C dX11_person_69 bp_99 ?_
    refine rx_callVi C [.int (0 : Int32), .int (99 : Int32)] [.int w18, .ref (α 5)] (m_X11_number z.l C.inj (0 : Int32) (99 : Int32) q21.2) mv_X11_number lk_X11_361 sm_0 rfl rfl rfl (Nat.le_of_ble_eq_true rfl) ⟨Nat.le_of_ble_eq_true rfl, Nat.le_of_ble_eq_true rfl⟩ dX11_person_71 (fun q22 => ?_)
    refine rx_iast C (n := 16) sm_5 dX11_person_74 (fun _ => ?_)
    refine rx_lts (fun σ23 => ?_)
    refine rx_aload_n C 1 dX11_person_75 rfl rfl ?_
    refine rx_ldc2_w C lk_X11_265 dX11_person_76 ?_
    refine rx_callVv C [.long (465624790131 : Int64)] [] (m_X11_must_ z.l C.inj (465624790131 : Int64) σ23) mv_X11_must_ lk_X11_369 sm_0 rfl rfl rfl (Nat.le_of_ble_eq_true rfl) ⟨Nat.le_of_ble_eq_true rfl, Nat.le_of_ble_eq_true rfl⟩ dX11_person_79 (fun q24 => ?_)
    refine rx_aload_n C 1 dX11_person_82 rfl rfl ?_
    refine rx_getC C (k := 17) sm_0 fc_X11 (by decide) 6 rfl lk_X11_64 dX11_person_83 ?_
    refine rx_iload_n C 0 dX11_person_86 rfl rfl ?_
    refine rx_aload_n C 1 dX11_person_87 rfl rfl ?_
    refine rx_iconst C dX11_person_88 ic_0 ?_
    refine rx_sipush C dX11_person_89 sp_999 ?_
    refine rx_callVi C [.int (0 : Int32), .int (999 : Int32)] [.int w18, .ref (α 6)] (m_X11_number z.l C.inj (0 : Int32) (999 : Int32) q24.2) mv_X11_number lk_X11_361 sm_0 rfl rfl rfl (Nat.le_of_ble_eq_true rfl) ⟨Nat.le_of_ble_eq_true rfl, Nat.le_of_ble_eq_true rfl⟩ dX11_person_92 (fun q25 => ?_)
    refine rx_iast C (n := 16) sm_6 dX11_person_95 (fun _ => ?_)
    refine rx_lts (fun σ26 => ?_)
    refine rx_aload_n C 1 dX11_person_96 rfl rfl ?_
    refine rx_ldc2_w C lk_X11_267 dX11_person_97 ?_
    refine rx_callVv C [.long (431198467187 : Int64)] [] (m_X11_must_ z.l C.inj (431198467187 : Int64) σ26) mv_X11_must_ lk_X11_369 sm_0 rfl rfl rfl (Nat.le_of_ble_eq_true rfl) ⟨Nat.le_of_ble_eq_true rfl, Nat.le_of_ble_eq_true rfl⟩ dX11_person_100 (fun q27 => ?_)
    refine rx_aload_n C 1 dX11_person_103 rfl rfl ?_
    refine rx_getC C (k := 18) sm_0 fc_X11 (by decide) 7 rfl lk_X11_67 dX11_person_104 ?_
    refine rx_iload_n C 0 dX11_person_107 rfl rfl ?_
    refine rx_aload_n C 1 dX11_person_108 rfl rfl ?_
    refine rx_iconst C dX11_person_109 ic_0 ?_
    refine rx_bipush C dX11_person_110 bp_100 ?_
    refine rx_callVi C [.int (0 : Int32), .int (100 : Int32)] [.int w18, .ref (α 7)] (m_X11_number z.l C.inj (0 : Int32) (100 : Int32) q27.2) mv_X11_number lk_X11_361 sm_0 rfl rfl rfl (Nat.le_of_ble_eq_true rfl) ⟨Nat.le_of_ble_eq_true rfl, Nat.le_of_ble_eq_true rfl⟩ dX11_person_112 (fun q28 => ?_)
    refine rx_iast C (n := 16) sm_7 dX11_person_115 (fun _ => ?_)
    refine rx_lts (fun σ29 => ?_)
    refine rx_aload_n C 1 dX11_person_116 rfl rfl ?_
    refine rx_getC C (k := 19) sm_0 fc_X11 (by decide) 8 rfl lk_X11_70 dX11_person_117 ?_
    refine rx_iload_n C 0 dX11_person_120 rfl rfl ?_
    refine rx_iconst C dX11_person_121 ic_0 ?_
    refine rx_iast C (n := 16) sm_8 dX11_person_122 (fun _ => ?_)
    refine rx_lts (fun σ30 => ?_)
    refine rx_aload_n C 1 dX11_person_123 rfl rfl ?_
    refine rx_getI C (k := 8) sm_0 fc_X11 (by decide) rfl lk_X11_36 dX11_person_124 ?_
    refine rx_if_ne C (tgt := 143) dX11_person_127 (by decide) (fun _ => ?_) (fun _ => ?_)
    · refine rx_aload_n C 1 dX11_person_130 rfl rfl ?_
      refine rx_getC C (k := 14) sm_0 fc_X11 (by decide) 3 rfl lk_X11_54 dX11_person_131 ?_
      refine rx_aload_n C 1 dX11_person_134 rfl rfl ?_
      refine rx_getI C (k := 38) sm_0 fc_X11 (by decide) rfl lk_X11_127 dX11_person_135 ?_
      refine rx_lti (fun w31 => ?_)
      refine rx_dup2 C dX11_person_138 rfl rfl ?_
      refine rx_iald C (n := 2) sm_3 dX11_person_139 (fun _ => ?_)
      refine rx_iconst C dX11_person_140 ic_1 ?_
      refine rx_iadd C dX11_person_141 ?_
      refine rx_iast C (n := 2) sm_3 dX11_person_142 (fun _ => ?_)
      refine rx_lts (fun σ32 => ?_)
      exact RX.loc (w_X11_person_143 C σ32) [] rfl
    · exact RX.loc (w_X11_person_143 C σ30) [] rfl
set_option maxRecDepth 100000 in
set_option maxHeartbeats 4000000 in
theorem w_X11_person_e {α : Nat → Nat} {D : va_G} {cA : Nat → ClassId} {z : Cz} (C : CX shM α D cA z RX11 cX11_person 2 none 3 70) (σ : St) : RX emV shM α D cA z 2 σ 0 [(0, .ref (α 0))] [] (f_X11_person σ) := by
  unfold f_X11_person
  refine rx_aload_n C 0 dX11_person_0 rfl rfl ?_
  refine rx_aload_n C 0 dX11_person_1 rfl rfl ?_
  refine rx_getC C (k := 14) sm_0 fc_X11 (by decide) 3 rfl lk_X11_54 dX11_person_2 ?_
  refine rx_aload_n C 0 dX11_person_5 rfl rfl ?_
  refine rx_getI C (k := 38) sm_0 fc_X11 (by decide) rfl lk_X11_127 dX11_person_6 ?_
  refine rx_iald C (n := 2) sm_3 dX11_person_9 (fun _ => ?_)
  refine rx_bipush C dX11_person_10 bp_8 ?_
  refine rx_icmp_ne C (tgt := 19) dX11_person_12 (by decide) (fun _ => ?_) (fun _ => ?_)
  · refine rx_iconst C dX11_person_15 ic_1 ?_
    refine rx_goto C (tgt := 20) dX11_person_16 (by decide) ?_
    exact RX.loc (w_X11_person_20 C (1 : Int32) σ) [0] rfl
  · refine rx_iconst C dX11_person_19 ic_0 ?_
    exact RX.loc (w_X11_person_20 C (0 : Int32) σ) [0] rfl
theorem m_X11_person (l : Launch) {α : Nat → Nat} {D : va_G} {cA : Nat → ClassId} (hin : inj shM.length α) (σ : St) : CT shM l yX11_person cX11_person 2 none 3 70 emV α D cA [.ref (α 0)] σ (f_X11_person σ) := ct_of rfl (Nat.le_of_ble_eq_true rfl) hin (fun z _ C => w_X11_person_e C σ)
set_option maxRecDepth 100000 in
set_option maxHeartbeats 4000000 in
theorem w_X11_title_96 {α : Nat → Nat} {D : va_G} {cA : Nat → ClassId} {z : Cz} (C : CX shM α D cA z RX11 cX11_title 2 none 3 70) (σ : St) : RX emV shM α D cA z 2 σ 96 [] [] (f_X11_title_96 σ) := by
  unfold f_X11_title_96
  exact rx_vret C dX11_title_96
set_option maxRecDepth 100000 in
set_option maxHeartbeats 4000000 in
theorem w_X11_title_20 {α : Nat → Nat} {D : va_G} {cA : Nat → ClassId} {z : Cz} (C : CX shM α D cA z RX11 cX11_title 2 none 3 70) (s1 : Int32) (σ : St) : RX emV shM α D cA z 2 σ 20 [(0, .ref (α 0))] [.int s1, .ref (α 0)] (f_X11_title_20 s1 σ) := by
  unfold f_X11_title_20
  refine rx_callVi C [.int s1] [] (m_X11_counts z.l C.inj s1 σ) mv_X11_counts lk_X11_353 sm_0 rfl rfl rfl (Nat.le_of_ble_eq_true rfl) ⟨Nat.le_of_ble_eq_true rfl, Nat.le_of_ble_eq_true rfl⟩ dX11_title_20 (fun q10 => ?_)
  refine rx_if_ne C (tgt := 27) dX11_title_23 (by decide) (fun _ => ?_) (fun _ => ?_)
  · exact rx_vret C dX11_title_26
  · refine rx_bipush C dX11_title_27 bp_12 ?_
    refine rx_aload_n C 0 dX11_title_29 rfl rfl ?_
    refine rx_getI C (k := 38) sm_0 fc_X11 (by decide) rfl lk_X11_127 dX11_title_30 ?_
    refine rx_imul C dX11_title_33 ?_
    refine rx_aload_n C 0 dX11_title_34 rfl rfl ?_
    refine rx_getC C (k := 20) sm_0 fc_X11 (by decide) 9 rfl lk_X11_73 dX11_title_35 ?_
    refine rx_aload_n C 0 dX11_title_38 rfl rfl ?_
    refine rx_getI C (k := 38) sm_0 fc_X11 (by decide) rfl lk_X11_127 dX11_title_39 ?_
    refine rx_iald C (n := 2) sm_9 dX11_title_42 (fun _ => ?_)
    refine rx_iadd C dX11_title_43 ?_
    refine rx_lti (fun w11 => ?_)
    refine rx_istore_n C [(1, .int w11), (0, .ref (α 0))] dX11_title_44 rfl (by decide) rfl ?_
    refine rx_aload_n C 1 dX11_title_45 rfl rfl ?_
    refine rx_getC C (k := 21) sm_0 fc_X11 (by decide) 10 rfl lk_X11_76 dX11_title_46 ?_
    refine rx_iload_n C 0 dX11_title_49 rfl rfl ?_
    refine rx_aload_n C 1 dX11_title_50 rfl rfl ?_
    refine rx_callVl C [] [.int w11, .ref (α 10)] (m_X11_fresh z.l C.inj q10.2) mv_X11_fresh lk_X11_365 sm_0 rfl rfl rfl (Nat.le_of_ble_eq_true rfl) ⟨Nat.le_of_ble_eq_true rfl, Nat.le_of_ble_eq_true rfl⟩ dX11_title_51 (fun q12 => ?_)
    refine rx_last C (n := 24) sm_10 dX11_title_54 (fun _ => ?_)
    refine rx_lts (fun σ13 => ?_)
    refine rx_aload_n C 1 dX11_title_55 rfl rfl ?_
    refine rx_ldc2_w C lk_X11_271 dX11_title_56 ?_
    refine rx_callVv C [.long (114827803456882 : Int64)] [] (m_X11_must_ z.l C.inj (114827803456882 : Int64) σ13) mv_X11_must_ lk_X11_369 sm_0 rfl rfl rfl (Nat.le_of_ble_eq_true rfl) ⟨Nat.le_of_ble_eq_true rfl, Nat.le_of_ble_eq_true rfl⟩ dX11_title_59 (fun q14 => ?_)
    refine rx_aload_n C 1 dX11_title_62 rfl rfl ?_
    refine rx_getC C (k := 22) sm_0 fc_X11 (by decide) 11 rfl lk_X11_79 dX11_title_63 ?_
    refine rx_iload_n C 0 dX11_title_66 rfl rfl ?_
    refine rx_aload_n C 1 dX11_title_67 rfl rfl ?_
    refine rx_iconst C dX11_title_68 ic_0 ?_
    refine rx_sipush C dX11_title_69 sp_999 ?_
    refine rx_callVi C [.int (0 : Int32), .int (999 : Int32)] [.int w11, .ref (α 11)] (m_X11_number z.l C.inj (0 : Int32) (999 : Int32) q14.2) mv_X11_number lk_X11_361 sm_0 rfl rfl rfl (Nat.le_of_ble_eq_true rfl) ⟨Nat.le_of_ble_eq_true rfl, Nat.le_of_ble_eq_true rfl⟩ dX11_title_72 (fun q15 => ?_)
    refine rx_iast C (n := 24) sm_11 dX11_title_75 (fun _ => ?_)
    refine rx_lts (fun σ16 => ?_)
    refine rx_aload_n C 1 dX11_title_76 rfl rfl ?_
    refine rx_getI C (k := 8) sm_0 fc_X11 (by decide) rfl lk_X11_36 dX11_title_77 ?_
    refine rx_if_ne C (tgt := 96) dX11_title_80 (by decide) (fun _ => ?_) (fun _ => ?_)
    · refine rx_aload_n C 1 dX11_title_83 rfl rfl ?_
      refine rx_getC C (k := 20) sm_0 fc_X11 (by decide) 9 rfl lk_X11_73 dX11_title_84 ?_
      refine rx_aload_n C 1 dX11_title_87 rfl rfl ?_
      refine rx_getI C (k := 38) sm_0 fc_X11 (by decide) rfl lk_X11_127 dX11_title_88 ?_
      refine rx_lti (fun w17 => ?_)
      refine rx_dup2 C dX11_title_91 rfl rfl ?_
      refine rx_iald C (n := 2) sm_9 dX11_title_92 (fun _ => ?_)
      refine rx_iconst C dX11_title_93 ic_1 ?_
      refine rx_iadd C dX11_title_94 ?_
      refine rx_iast C (n := 2) sm_9 dX11_title_95 (fun _ => ?_)
      refine rx_lts (fun σ18 => ?_)
      exact RX.loc (w_X11_title_96 C σ18) [] rfl
    · exact RX.loc (w_X11_title_96 C σ16) [] rfl
set_option maxRecDepth 100000 in
set_option maxHeartbeats 4000000 in
theorem w_X11_title_e {α : Nat → Nat} {D : va_G} {cA : Nat → ClassId} {z : Cz} (C : CX shM α D cA z RX11 cX11_title 2 none 3 70) (σ : St) : RX emV shM α D cA z 2 σ 0 [(0, .ref (α 0))] [] (f_X11_title σ) := by
  unfold f_X11_title
  refine rx_aload_n C 0 dX11_title_0 rfl rfl ?_
  refine rx_aload_n C 0 dX11_title_1 rfl rfl ?_
  refine rx_getC C (k := 20) sm_0 fc_X11 (by decide) 9 rfl lk_X11_73 dX11_title_2 ?_
  refine rx_aload_n C 0 dX11_title_5 rfl rfl ?_
  refine rx_getI C (k := 38) sm_0 fc_X11 (by decide) rfl lk_X11_127 dX11_title_6 ?_
  refine rx_iald C (n := 2) sm_9 dX11_title_9 (fun _ => ?_)
  refine rx_bipush C dX11_title_10 bp_12 ?_
  refine rx_icmp_ne C (tgt := 19) dX11_title_12 (by decide) (fun _ => ?_) (fun _ => ?_)
  · refine rx_iconst C dX11_title_15 ic_1 ?_
    refine rx_goto C (tgt := 20) dX11_title_16 (by decide) ?_
    exact RX.loc (w_X11_title_20 C (1 : Int32) σ) [0] rfl
  · refine rx_iconst C dX11_title_19 ic_0 ?_
    exact RX.loc (w_X11_title_20 C (0 : Int32) σ) [0] rfl
theorem m_X11_title (l : Launch) {α : Nat → Nat} {D : va_G} {cA : Nat → ClassId} (hin : inj shM.length α) (σ : St) : CT shM l yX11_title cX11_title 2 none 3 70 emV α D cA [.ref (α 0)] σ (f_X11_title σ) := ct_of rfl (Nat.le_of_ble_eq_true rfl) hin (fun z _ C => w_X11_title_e C σ)
set_option maxRecDepth 100000 in
set_option maxHeartbeats 4000000 in
theorem w_X11_having_116 {α : Nat → Nat} {D : va_G} {cA : Nat → ClassId} {z : Cz} (C : CX shM α D cA z RX11 cX11_having 3 none 3 70) (σ : St) : RX emV shM α D cA z 3 σ 116 [] [] (f_X11_having_116 σ) := by
  unfold f_X11_having_116
  exact rx_vret C dX11_having_116
set_option maxRecDepth 100000 in
set_option maxHeartbeats 4000000 in
theorem w_X11_having_91 {α : Nat → Nat} {D : va_G} {cA : Nat → ClassId} {z : Cz} (C : CX shM α D cA z RX11 cX11_having 3 none 3 70) (x1 : Int32) (σ : St) : RX emV shM α D cA z 3 σ 91 [(0, .ref (α 0)), (1, .int x1)] [] (f_X11_having_91 x1 σ) := by
  unfold f_X11_having_91
  refine rx_aload_n C 0 dX11_having_91 rfl rfl ?_
  refine rx_iconst C dX11_having_92 ic_1 ?_
  refine rx_callVi C [.int (1 : Int32)] [] (m_X11_asked z.l C.inj (1 : Int32) σ) mv_X11_asked lk_X11_373 sm_0 rfl rfl rfl (Nat.le_of_ble_eq_true rfl) ⟨Nat.le_of_ble_eq_true rfl, Nat.le_of_ble_eq_true rfl⟩ dX11_having_93 (fun q14 => ?_)
  refine rx_istore_n C [(2, .int q14.1), (0, .ref (α 0)), (1, .int x1)] dX11_having_96 rfl (by decide) rfl ?_
  refine rx_aload_n C 1 dX11_having_97 rfl rfl ?_
  refine rx_getI C (k := 8) sm_0 fc_X11 (by decide) rfl lk_X11_36 dX11_having_98 ?_
  refine rx_if_ne C (tgt := 116) dX11_having_101 (by decide) (fun _ => ?_) (fun _ => ?_)
  · refine rx_aload_n C 1 dX11_having_104 rfl rfl ?_
    refine rx_getC C (k := 19) sm_0 fc_X11 (by decide) 8 rfl lk_X11_70 dX11_having_105 ?_
    refine rx_iload_n C 2 dX11_having_108 rfl rfl ?_
    refine rx_dup2 C dX11_having_109 rfl rfl ?_
    refine rx_iald C (n := 16) sm_8 dX11_having_110 (fun _ => ?_)
    refine rx_iconst C dX11_having_111 ic_1 ?_
    refine rx_iload_n C 0 dX11_having_112 rfl rfl ?_
    refine rx_ishl C dX11_having_113 ?_
    refine rx_ior C dX11_having_114 ?_
    refine rx_iast C (n := 16) sm_8 dX11_having_115 (fun _ => ?_)
    refine rx_lts (fun σ15 => ?_)
    exact RX.loc (w_X11_having_116 C σ15) [] rfl
  · exact RX.loc (w_X11_having_116 C q14.2) [] rfl
set_option maxRecDepth 100000 in
set_option maxHeartbeats 4000000 in
theorem w_X11_having_62 {α : Nat → Nat} {D : va_G} {cA : Nat → ClassId} {z : Cz} (C : CX shM α D cA z RX11 cX11_having 3 none 3 70) (x1 : Int32) (s0 : Int32) (σ : St) : RX emV shM α D cA z 3 σ 62 [(0, .ref (α 0)), (1, .int x1)] [.int s0] (f_X11_having_62 x1 s0 σ) := by
  unfold f_X11_having_62
  refine rx_istore_n C [(2, .int s0), (0, .ref (α 0)), (1, .int x1)] dX11_having_62 rfl (by decide) rfl ?_
  refine rx_iload_n C 0 dX11_having_63 rfl rfl ?_
  refine rx_iconst C dX11_having_64 ic_m1 ?_
  refine rx_icmp_eq C (tgt := 91) dX11_having_65 (by decide) (fun _ => ?_) (fun _ => ?_)
  · exact RX.loc (w_X11_having_91 C x1 σ) [1, 2] rfl
  · refine rx_aload_n C 1 dX11_having_68 rfl rfl ?_
    refine rx_getC C (k := 19) sm_0 fc_X11 (by decide) 8 rfl lk_X11_70 dX11_having_69 ?_
    refine rx_iload_n C 2 dX11_having_72 rfl rfl ?_
    refine rx_iald C (n := 16) sm_8 dX11_having_73 (fun _ => ?_)
    refine rx_iload_n C 0 dX11_having_74 rfl rfl ?_
    refine rx_ishr C dX11_having_75 ?_
    refine rx_iconst C dX11_having_76 ic_1 ?_
    refine rx_iand C dX11_having_77 ?_
    refine rx_iconst C dX11_having_78 ic_1 ?_
    refine rx_icmp_ne C (tgt := 91) dX11_having_79 (by decide) (fun _ => ?_) (fun _ => ?_)
    · refine rx_aload_n C 1 dX11_having_82 rfl rfl ?_
      refine rx_iconst C dX11_having_83 ic_3 ?_
      refine rx_aload_n C 1 dX11_having_84 rfl rfl ?_
      refine rx_getI C (k := 4) sm_0 fc_X11 (by decide) rfl lk_X11_23 dX11_having_85 ?_
      refine rx_callVv C [.int (3 : Int32), .int (gI σ 0 4)] [] (m_X11_blame z.l C.inj (3 : Int32) (gI σ 0 4) σ) mv_X11_blame lk_X11_249 sm_0 rfl rfl rfl (Nat.le_of_ble_eq_true rfl) ⟨Nat.le_of_ble_eq_true rfl, Nat.le_of_ble_eq_true rfl⟩ dX11_having_88 (fun q16 => ?_)
      exact RX.loc (w_X11_having_91 C x1 q16.2) [1, 2] rfl
    · exact RX.loc (w_X11_having_91 C x1 σ) [1, 2] rfl
set_option maxRecDepth 100000 in
set_option maxHeartbeats 4000000 in
theorem w_X11_having_61 {α : Nat → Nat} {D : va_G} {cA : Nat → ClassId} {z : Cz} (C : CX shM α D cA z RX11 cX11_having 3 none 3 70) (x1 : Int32) (σ : St) : RX emV shM α D cA z 3 σ 61 [(0, .ref (α 0)), (1, .int x1)] [] (f_X11_having_61 x1 σ) := by
  unfold f_X11_having_61
  refine rx_iconst C dX11_having_61 ic_m1 ?_
  exact RX.loc (w_X11_having_62 C x1 (-1 : Int32) σ) [0, 1] rfl
set_option maxRecDepth 100000 in
set_option maxHeartbeats 4000000 in
theorem w_X11_having_e {α : Nat → Nat} {D : va_G} {cA : Nat → ClassId} {z : Cz} (C : CX shM α D cA z RX11 cX11_having 3 none 3 70) (σ : St) : RX emV shM α D cA z 3 σ 0 [(0, .ref (α 0))] [] (f_X11_having σ) := by
  unfold f_X11_having
  refine rx_aload_n C 0 dX11_having_0 rfl rfl ?_
  refine rx_iconst C dX11_having_1 ic_0 ?_
  refine rx_callVi C [.int (0 : Int32)] [] (m_X11_counts z.l C.inj (0 : Int32) σ) mv_X11_counts lk_X11_353 sm_0 rfl rfl rfl (Nat.le_of_ble_eq_true rfl) ⟨Nat.le_of_ble_eq_true rfl, Nat.le_of_ble_eq_true rfl⟩ dX11_having_2 (fun q9 => ?_)
  refine rx_if_ne C (tgt := 9) dX11_having_5 (by decide) (fun _ => ?_) (fun _ => ?_)
  · exact rx_vret C dX11_having_8
  · refine rx_bipush C dX11_having_9 bp_8 ?_
    refine rx_aload_n C 0 dX11_having_11 rfl rfl ?_
    refine rx_getI C (k := 38) sm_0 fc_X11 (by decide) rfl lk_X11_127 dX11_having_12 ?_
    refine rx_imul C dX11_having_15 ?_
    refine rx_aload_n C 0 dX11_having_16 rfl rfl ?_
    refine rx_iconst C dX11_having_17 ic_0 ?_
    refine rx_callVi C [.int (0 : Int32)] [.int ((8 : Int32) * (gI q9.2 0 38))] (m_X11_asked z.l C.inj (0 : Int32) q9.2) mv_X11_asked lk_X11_373 sm_0 rfl rfl rfl (Nat.le_of_ble_eq_true rfl) ⟨Nat.le_of_ble_eq_true rfl, Nat.le_of_ble_eq_true rfl⟩ dX11_having_18 (fun q10 => ?_)
    refine rx_iadd C dX11_having_21 ?_
    refine rx_lti (fun w11 => ?_)
    refine rx_istore_n C [(1, .int w11), (0, .ref (α 0))] dX11_having_22 rfl (by decide) rfl ?_
    refine rx_aload_n C 1 dX11_having_23 rfl rfl ?_
    refine rx_getI C (k := 8) sm_0 fc_X11 (by decide) rfl lk_X11_36 dX11_having_24 ?_
    refine rx_if_ne C (tgt := 61) dX11_having_27 (by decide) (fun _ => ?_) (fun _ => ?_)
    · refine rx_aload_n C 1 dX11_having_30 rfl rfl ?_
      refine rx_getI C (k := 3) sm_0 fc_X11 (by decide) rfl lk_X11_20 dX11_having_31 ?_
      refine rx_iconst C dX11_having_34 ic_1 ?_
      refine rx_icmp_ne C (tgt := 61) dX11_having_35 (by decide) (fun _ => ?_) (fun _ => ?_)
      · refine rx_aload_n C 1 dX11_having_38 rfl rfl ?_
        refine rx_aload_n C 1 dX11_having_39 rfl rfl ?_
        refine rx_getL C (k := 7) sm_0 fc_X11 (by decide) rfl lk_X11_32 dX11_having_40 ?_
        refine rx_callVi C [.long (gL q10.2 0 7)] [] (m_X11_isOwn z.l C.inj (gL q10.2 0 7) q10.2) mv_X11_isOwn lk_X11_344 sm_0 rfl rfl rfl (Nat.le_of_ble_eq_true rfl) ⟨Nat.le_of_ble_eq_true rfl, Nat.le_of_ble_eq_true rfl⟩ dX11_having_43 (fun q12 => ?_)
        refine rx_if_ne C (tgt := 61) dX11_having_46 (by decide) (fun _ => ?_) (fun _ => ?_)
        · refine rx_aload_n C 1 dX11_having_49 rfl rfl ?_
          refine rx_iconst C dX11_having_50 ic_1 ?_
          refine rx_aload_n C 1 dX11_having_51 rfl rfl ?_
          refine rx_getL C (k := 7) sm_0 fc_X11 (by decide) rfl lk_X11_32 dX11_having_52 ?_
          refine rx_callVi C [.int (1 : Int32), .long (gL q12.2 0 7)] [] (m_X11_named z.l C.inj (1 : Int32) (gL q12.2 0 7) q12.2) mv_X11_named lk_X11_347 sm_0 rfl rfl rfl (Nat.le_of_ble_eq_true rfl) ⟨Nat.le_of_ble_eq_true rfl, Nat.le_of_ble_eq_true rfl⟩ dX11_having_55 (fun q13 => ?_)
          refine rx_goto C (tgt := 62) dX11_having_58 (by decide) ?_
          exact RX.loc (w_X11_having_62 C w11 q13.1 q13.2) [1, 0] rfl
        · exact RX.loc (w_X11_having_61 C w11 q12.2) [1, 0] rfl
      · exact RX.loc (w_X11_having_61 C w11 q10.2) [1, 0] rfl
    · exact RX.loc (w_X11_having_61 C w11 q10.2) [1, 0] rfl
theorem m_X11_having (l : Launch) {α : Nat → Nat} {D : va_G} {cA : Nat → ClassId} (hin : inj shM.length α) (σ : St) : CT shM l yX11_having cX11_having 3 none 3 70 emV α D cA [.ref (α 0)] σ (f_X11_having σ) := ct_of rfl (Nat.le_of_ble_eq_true rfl) hin (fun z _ C => w_X11_having_e C σ)
set_option maxRecDepth 100000 in
set_option maxHeartbeats 4000000 in
theorem w_X11_heaping_44 {α : Nat → Nat} {D : va_G} {cA : Nat → ClassId} {z : Cz} (C : CX shM α D cA z RX11 cX11_heaping 3 none 3 70) (σ : St) : RX emV shM α D cA z 3 σ 44 [] [] (f_X11_heaping_44 σ) := by
  unfold f_X11_heaping_44
  exact rx_vret C dX11_heaping_44
set_option maxRecDepth 100000 in
set_option maxHeartbeats 4000000 in
theorem w_X11_heaping_e {α : Nat → Nat} {D : va_G} {cA : Nat → ClassId} {z : Cz} (C : CX shM α D cA z RX11 cX11_heaping 3 none 3 70) (σ : St) : RX emV shM α D cA z 3 σ 0 [(0, .ref (α 0))] [] (f_X11_heaping σ) := by
  unfold f_X11_heaping
  refine rx_aload_n C 0 dX11_heaping_0 rfl rfl ?_
  refine rx_iconst C dX11_heaping_1 ic_0 ?_
  refine rx_callVi C [.int (0 : Int32)] [] (m_X11_counts z.l C.inj (0 : Int32) σ) mv_X11_counts lk_X11_353 sm_0 rfl rfl rfl (Nat.le_of_ble_eq_true rfl) ⟨Nat.le_of_ble_eq_true rfl, Nat.le_of_ble_eq_true rfl⟩ dX11_heaping_2 (fun q5 => ?_)
  refine rx_if_ne C (tgt := 9) dX11_heaping_5 (by decide) (fun _ => ?_) (fun _ => ?_)
  · exact rx_vret C dX11_heaping_8
  · refine rx_aload_n C 0 dX11_heaping_9 rfl rfl ?_
    refine rx_callVi C [] [] (m_X11_oneLetter z.l C.inj q5.2) mv_X11_oneLetter lk_X11_357 sm_0 rfl rfl rfl (Nat.le_of_ble_eq_true rfl) ⟨Nat.le_of_ble_eq_true rfl, Nat.le_of_ble_eq_true rfl⟩ dX11_heaping_10 (fun q6 => ?_)
    refine rx_istore_n C [(1, .int q6.1), (0, .ref (α 0))] dX11_heaping_13 rfl (by decide) rfl ?_
    refine rx_aload_n C 1 dX11_heaping_14 rfl rfl ?_
    refine rx_iconst C dX11_heaping_15 ic_0 ?_
    refine rx_bipush C dX11_heaping_16 bp_99 ?_
    refine rx_callVi C [.int (0 : Int32), .int (99 : Int32)] [] (m_X11_number z.l C.inj (0 : Int32) (99 : Int32) q6.2) mv_X11_number lk_X11_361 sm_0 rfl rfl rfl (Nat.le_of_ble_eq_true rfl) ⟨Nat.le_of_ble_eq_true rfl, Nat.le_of_ble_eq_true rfl⟩ dX11_heaping_18 (fun q7 => ?_)
    refine rx_istore_n C [(2, .int q7.1), (1, .int q6.1), (0, .ref (α 0))] dX11_heaping_21 rfl (by decide) rfl ?_
    refine rx_aload_n C 2 dX11_heaping_22 rfl rfl ?_
    refine rx_getI C (k := 8) sm_0 fc_X11 (by decide) rfl lk_X11_36 dX11_heaping_23 ?_
    refine rx_if_ne C (tgt := 44) dX11_heaping_26 (by decide) (fun _ => ?_) (fun _ => ?_)
    · refine rx_aload_n C 2 dX11_heaping_29 rfl rfl ?_
      refine rx_getC C (k := 23) sm_0 fc_X11 (by decide) 12 rfl lk_X11_82 dX11_heaping_30 ?_
      refine rx_bipush C dX11_heaping_33 bp_26 ?_
      refine rx_aload_n C 2 dX11_heaping_35 rfl rfl ?_
      refine rx_getI C (k := 38) sm_0 fc_X11 (by decide) rfl lk_X11_127 dX11_heaping_36 ?_
      refine rx_imul C dX11_heaping_39 ?_
      refine rx_iload_n C 1 dX11_heaping_40 rfl rfl ?_
      refine rx_iadd C dX11_heaping_41 ?_
      refine rx_iload_n C 0 dX11_heaping_42 rfl rfl ?_
      refine rx_iast C (n := 52) sm_12 dX11_heaping_43 (fun _ => ?_)
      refine rx_lts (fun σ8 => ?_)
      exact RX.loc (w_X11_heaping_44 C σ8) [] rfl
    · exact RX.loc (w_X11_heaping_44 C q7.2) [] rfl
theorem m_X11_heaping (l : Launch) {α : Nat → Nat} {D : va_G} {cA : Nat → ClassId} (hin : inj shM.length α) (σ : St) : CT shM l yX11_heaping cX11_heaping 3 none 3 70 emV α D cA [.ref (α 0)] σ (f_X11_heaping σ) := ct_of rfl (Nat.le_of_ble_eq_true rfl) hin (fun z _ C => w_X11_heaping_e C σ)
set_option maxRecDepth 100000 in
set_option maxHeartbeats 4000000 in
theorem w_X11_ageing_117 {α : Nat → Nat} {D : va_G} {cA : Nat → ClassId} {z : Cz} (C : CX shM α D cA z RX11 cX11_ageing 2 none 3 70) (σ : St) : RX emV shM α D cA z 2 σ 117 [] [] (f_X11_ageing_117 σ) := by
  unfold f_X11_ageing_117
  exact rx_vret C dX11_ageing_117
set_option maxRecDepth 100000 in
set_option maxHeartbeats 4000000 in
theorem w_X11_ageing_77 {α : Nat → Nat} {D : va_G} {cA : Nat → ClassId} {z : Cz} (C : CX shM α D cA z RX11 cX11_ageing 2 none 3 70) (x1 : Int32) (s3 : Int32) (s1 : Int32) (σ : St) : RX emV shM α D cA z 2 σ 77 [(0, .ref (α 0)), (1, .int x1)] [.int s3, .ref (α 0), .int s1, .ref (α 14)] (f_X11_ageing_77 x1 s3 s1 σ) := by
  unfold f_X11_ageing_77
  refine rx_bipush C dX11_ageing_77 bp_99 ?_
  refine rx_callVi C [.int s3, .int (99 : Int32)] [.int s1, .ref (α 14)] (m_X11_number z.l C.inj s3 (99 : Int32) σ) mv_X11_number lk_X11_361 sm_0 rfl rfl rfl (Nat.le_of_ble_eq_true rfl) ⟨Nat.le_of_ble_eq_true rfl, Nat.le_of_ble_eq_true rfl⟩ dX11_ageing_79 (fun q11 => ?_)
  refine rx_iast C (n := 12) sm_14 dX11_ageing_82 (fun _ => ?_)
  refine rx_lts (fun σ12 => ?_)
  refine rx_aload_n C 0 dX11_ageing_83 rfl rfl ?_
  refine rx_getC C (k := 26) sm_0 fc_X11 (by decide) 15 rfl lk_X11_91 dX11_ageing_84 ?_
  refine rx_iload_n C 1 dX11_ageing_87 rfl rfl ?_
  refine rx_aload_n C 0 dX11_ageing_88 rfl rfl ?_
  refine rx_iconst C dX11_ageing_89 ic_0 ?_
  refine rx_sipush C dX11_ageing_90 sp_200 ?_
  refine rx_callVi C [.int (0 : Int32), .int (200 : Int32)] [.int x1, .ref (α 15)] (m_X11_number z.l C.inj (0 : Int32) (200 : Int32) σ12) mv_X11_number lk_X11_361 sm_0 rfl rfl rfl (Nat.le_of_ble_eq_true rfl) ⟨Nat.le_of_ble_eq_true rfl, Nat.le_of_ble_eq_true rfl⟩ dX11_ageing_93 (fun q13 => ?_)
  refine rx_iast C (n := 12) sm_15 dX11_ageing_96 (fun _ => ?_)
  refine rx_lts (fun σ14 => ?_)
  refine rx_aload_n C 0 dX11_ageing_97 rfl rfl ?_
  refine rx_getI C (k := 8) sm_0 fc_X11 (by decide) rfl lk_X11_36 dX11_ageing_98 ?_
  refine rx_if_ne C (tgt := 117) dX11_ageing_101 (by decide) (fun _ => ?_) (fun _ => ?_)
  · refine rx_aload_n C 0 dX11_ageing_104 rfl rfl ?_
    refine rx_getC C (k := 24) sm_0 fc_X11 (by decide) 13 rfl lk_X11_85 dX11_ageing_105 ?_
    refine rx_aload_n C 0 dX11_ageing_108 rfl rfl ?_
    refine rx_getI C (k := 38) sm_0 fc_X11 (by decide) rfl lk_X11_127 dX11_ageing_109 ?_
    refine rx_lti (fun w15 => ?_)
    refine rx_dup2 C dX11_ageing_112 rfl rfl ?_
    refine rx_iald C (n := 2) sm_13 dX11_ageing_113 (fun _ => ?_)
    refine rx_iconst C dX11_ageing_114 ic_1 ?_
    refine rx_iadd C dX11_ageing_115 ?_
    refine rx_iast C (n := 2) sm_13 dX11_ageing_116 (fun _ => ?_)
    refine rx_lts (fun σ16 => ?_)
    exact RX.loc (w_X11_ageing_117 C σ16) [] rfl
  · exact RX.loc (w_X11_ageing_117 C σ14) [] rfl
set_option maxRecDepth 100000 in
set_option maxHeartbeats 4000000 in
theorem w_X11_ageing_20 {α : Nat → Nat} {D : va_G} {cA : Nat → ClassId} {z : Cz} (C : CX shM α D cA z RX11 cX11_ageing 2 none 3 70) (s1 : Int32) (σ : St) : RX emV shM α D cA z 2 σ 20 [(0, .ref (α 0))] [.int s1, .ref (α 0)] (f_X11_ageing_20 s1 σ) := by
  unfold f_X11_ageing_20
  refine rx_callVi C [.int s1] [] (m_X11_counts z.l C.inj s1 σ) mv_X11_counts lk_X11_353 sm_0 rfl rfl rfl (Nat.le_of_ble_eq_true rfl) ⟨Nat.le_of_ble_eq_true rfl, Nat.le_of_ble_eq_true rfl⟩ dX11_ageing_20 (fun q9 => ?_)
  refine rx_if_ne C (tgt := 27) dX11_ageing_23 (by decide) (fun _ => ?_) (fun _ => ?_)
  · exact rx_vret C dX11_ageing_26
  · refine rx_bipush C dX11_ageing_27 bp_6 ?_
    refine rx_aload_n C 0 dX11_ageing_29 rfl rfl ?_
    refine rx_getI C (k := 38) sm_0 fc_X11 (by decide) rfl lk_X11_127 dX11_ageing_30 ?_
    refine rx_imul C dX11_ageing_33 ?_
    refine rx_aload_n C 0 dX11_ageing_34 rfl rfl ?_
    refine rx_getC C (k := 24) sm_0 fc_X11 (by decide) 13 rfl lk_X11_85 dX11_ageing_35 ?_
    refine rx_aload_n C 0 dX11_ageing_38 rfl rfl ?_
    refine rx_getI C (k := 38) sm_0 fc_X11 (by decide) rfl lk_X11_127 dX11_ageing_39 ?_
    refine rx_iald C (n := 2) sm_13 dX11_ageing_42 (fun _ => ?_)
    refine rx_iadd C dX11_ageing_43 ?_
    refine rx_lti (fun w10 => ?_)
    refine rx_istore_n C [(1, .int w10), (0, .ref (α 0))] dX11_ageing_44 rfl (by decide) rfl ?_
    refine rx_aload_n C 1 dX11_ageing_45 rfl rfl ?_
    refine rx_getC C (k := 25) sm_0 fc_X11 (by decide) 14 rfl lk_X11_88 dX11_ageing_46 ?_
    refine rx_iload_n C 0 dX11_ageing_49 rfl rfl ?_
    refine rx_aload_n C 1 dX11_ageing_50 rfl rfl ?_
    refine rx_aload_n C 1 dX11_ageing_51 rfl rfl ?_
    refine rx_getC C (k := 24) sm_0 fc_X11 (by decide) 13 rfl lk_X11_85 dX11_ageing_52 ?_
    refine rx_aload_n C 1 dX11_ageing_55 rfl rfl ?_
    refine rx_getI C (k := 38) sm_0 fc_X11 (by decide) rfl lk_X11_127 dX11_ageing_56 ?_
    refine rx_iald C (n := 2) sm_13 dX11_ageing_59 (fun _ => ?_)
    refine rx_if_ne C (tgt := 67) dX11_ageing_60 (by decide) (fun _ => ?_) (fun _ => ?_)
    · refine rx_iconst C dX11_ageing_63 ic_0 ?_
      refine rx_goto C (tgt := 77) dX11_ageing_64 (by decide) ?_
      exact RX.loc (w_X11_ageing_77 C w10 (0 : Int32) w10 q9.2) [1, 0] rfl
    · refine rx_aload_n C 1 dX11_ageing_67 rfl rfl ?_
      refine rx_getC C (k := 25) sm_0 fc_X11 (by decide) 14 rfl lk_X11_88 dX11_ageing_68 ?_
      refine rx_iload_n C 0 dX11_ageing_71 rfl rfl ?_
      refine rx_iconst C dX11_ageing_72 ic_1 ?_
      refine rx_isub C dX11_ageing_73 ?_
      refine rx_iald C (n := 12) sm_14 dX11_ageing_74 (fun _ => ?_)
      refine rx_iconst C dX11_ageing_75 ic_1 ?_
      refine rx_iadd C dX11_ageing_76 ?_
      exact RX.loc (w_X11_ageing_77 C w10 ((gI q9.2 14 (ix (w10 - (1 : Int32)))) + (1 : Int32)) w10 q9.2) [1, 0] rfl
set_option maxRecDepth 100000 in
set_option maxHeartbeats 4000000 in
theorem w_X11_ageing_e {α : Nat → Nat} {D : va_G} {cA : Nat → ClassId} {z : Cz} (C : CX shM α D cA z RX11 cX11_ageing 2 none 3 70) (σ : St) : RX emV shM α D cA z 2 σ 0 [(0, .ref (α 0))] [] (f_X11_ageing σ) := by
  unfold f_X11_ageing
  refine rx_aload_n C 0 dX11_ageing_0 rfl rfl ?_
  refine rx_aload_n C 0 dX11_ageing_1 rfl rfl ?_
  refine rx_getC C (k := 24) sm_0 fc_X11 (by decide) 13 rfl lk_X11_85 dX11_ageing_2 ?_
  refine rx_aload_n C 0 dX11_ageing_5 rfl rfl ?_
  refine rx_getI C (k := 38) sm_0 fc_X11 (by decide) rfl lk_X11_127 dX11_ageing_6 ?_
  refine rx_iald C (n := 2) sm_13 dX11_ageing_9 (fun _ => ?_)
  refine rx_bipush C dX11_ageing_10 bp_6 ?_
  refine rx_icmp_ne C (tgt := 19) dX11_ageing_12 (by decide) (fun _ => ?_) (fun _ => ?_)
  · refine rx_iconst C dX11_ageing_15 ic_1 ?_
    refine rx_goto C (tgt := 20) dX11_ageing_16 (by decide) ?_
    exact RX.loc (w_X11_ageing_20 C (1 : Int32) σ) [0] rfl
  · refine rx_iconst C dX11_ageing_19 ic_0 ?_
    exact RX.loc (w_X11_ageing_20 C (0 : Int32) σ) [0] rfl
theorem m_X11_ageing (l : Launch) {α : Nat → Nat} {D : va_G} {cA : Nat → ClassId} (hin : inj shM.length α) (σ : St) : CT shM l yX11_ageing cX11_ageing 2 none 3 70 emV α D cA [.ref (α 0)] σ (f_X11_ageing σ) := ct_of rfl (Nat.le_of_ble_eq_true rfl) hin (fun z _ C => w_X11_ageing_e C σ)
set_option maxRecDepth 100000 in
set_option maxHeartbeats 4000000 in
theorem w_X11_law_119 {α : Nat → Nat} {D : va_G} {cA : Nat → ClassId} {z : Cz} (C : CX shM α D cA z RX11 cX11_law 2 none 5 113) (σ : St) : RX emV shM α D cA z 2 σ 119 [] [] (f_X11_law_119 σ) := by
  unfold f_X11_law_119
  exact rx_vret C dX11_law_119
set_option maxRecDepth 100000 in
set_option maxHeartbeats 4000000 in
theorem w_X11_law_89 {α : Nat → Nat} {D : va_G} {cA : Nat → ClassId} {z : Cz} (C : CX shM α D cA z RX11 cX11_law 2 none 5 113) (x1 : Int32) (σ : St) : RX emV shM α D cA z 2 σ 89 [(0, .ref (α 0)), (1, .int x1)] [] (f_X11_law_89 x1 σ) := by
  unfold f_X11_law_89
  refine rx_aload_n C 0 dX11_law_89 rfl rfl ?_
  refine rx_getC C (k := 30) sm_0 fc_X11 (by decide) 19 rfl lk_X11_103 dX11_law_90 ?_
  refine rx_iload_n C 1 dX11_law_93 rfl rfl ?_
  refine rx_aload_n C 0 dX11_law_94 rfl rfl ?_
  refine rx_getI C (k := 37) sm_0 fc_X11 (by decide) rfl lk_X11_124 dX11_law_95 ?_
  refine rx_iast C (n := 16) sm_19 dX11_law_98 (fun _ => ?_)
  refine rx_lts (fun σ18 => ?_)
  refine rx_aload_n C 0 dX11_law_99 rfl rfl ?_
  refine rx_getI C (k := 8) sm_0 fc_X11 (by decide) rfl lk_X11_36 dX11_law_100 ?_
  refine rx_if_ne C (tgt := 119) dX11_law_103 (by decide) (fun _ => ?_) (fun _ => ?_)
  · refine rx_aload_n C 0 dX11_law_106 rfl rfl ?_
    refine rx_getC C (k := 27) sm_0 fc_X11 (by decide) 16 rfl lk_X11_94 dX11_law_107 ?_
    refine rx_aload_n C 0 dX11_law_110 rfl rfl ?_
    refine rx_getI C (k := 38) sm_0 fc_X11 (by decide) rfl lk_X11_127 dX11_law_111 ?_
    refine rx_lti (fun w19 => ?_)
    refine rx_dup2 C dX11_law_114 rfl rfl ?_
    refine rx_iald C (n := 2) sm_16 dX11_law_115 (fun _ => ?_)
    refine rx_iconst C dX11_law_116 ic_1 ?_
    refine rx_iadd C dX11_law_117 ?_
    refine rx_iast C (n := 2) sm_16 dX11_law_118 (fun _ => ?_)
    refine rx_lts (fun σ20 => ?_)
    exact RX.loc (w_X11_law_119 C σ20) [] rfl
  · exact RX.loc (w_X11_law_119 C σ18) [] rfl
set_option maxRecDepth 100000 in
set_option maxHeartbeats 4000000 in
theorem w_X11_law_20 {α : Nat → Nat} {D : va_G} {cA : Nat → ClassId} {z : Cz} (C : CX shM α D cA z RX11 cX11_law 2 none 5 113) (s1 : Int32) (σ : St) : RX emV shM α D cA z 2 σ 20 [(0, .ref (α 0))] [.int s1, .ref (α 0)] (f_X11_law_20 s1 σ) := by
  unfold f_X11_law_20
  refine rx_callVi C [.int s1] [] (m_X11_counts z.l C.inj s1 σ) mv_X11_counts lk_X11_353 sm_0 rfl rfl rfl (Nat.le_of_ble_eq_true rfl) ⟨Nat.le_of_ble_eq_true rfl, Nat.le_of_ble_eq_true rfl⟩ dX11_law_20 (fun q11 => ?_)
  refine rx_if_ne C (tgt := 27) dX11_law_23 (by decide) (fun _ => ?_) (fun _ => ?_)
  · exact rx_vret C dX11_law_26
  · refine rx_bipush C dX11_law_27 bp_8 ?_
    refine rx_aload_n C 0 dX11_law_29 rfl rfl ?_
    refine rx_getI C (k := 38) sm_0 fc_X11 (by decide) rfl lk_X11_127 dX11_law_30 ?_
    refine rx_imul C dX11_law_33 ?_
    refine rx_aload_n C 0 dX11_law_34 rfl rfl ?_
    refine rx_getC C (k := 27) sm_0 fc_X11 (by decide) 16 rfl lk_X11_94 dX11_law_35 ?_
    refine rx_aload_n C 0 dX11_law_38 rfl rfl ?_
    refine rx_getI C (k := 38) sm_0 fc_X11 (by decide) rfl lk_X11_127 dX11_law_39 ?_
    refine rx_iald C (n := 2) sm_16 dX11_law_42 (fun _ => ?_)
    refine rx_iadd C dX11_law_43 ?_
    refine rx_lti (fun w12 => ?_)
    refine rx_istore_n C [(1, .int w12), (0, .ref (α 0))] dX11_law_44 rfl (by decide) rfl ?_
    refine rx_aload_n C 1 dX11_law_45 rfl rfl ?_
    refine rx_getC C (k := 28) sm_0 fc_X11 (by decide) 17 rfl lk_X11_97 dX11_law_46 ?_
    refine rx_iload_n C 0 dX11_law_49 rfl rfl ?_
    refine rx_aload_n C 1 dX11_law_50 rfl rfl ?_
    refine rx_getI C (k := 37) sm_0 fc_X11 (by decide) rfl lk_X11_124 dX11_law_51 ?_
    refine rx_iast C (n := 16) sm_17 dX11_law_54 (fun _ => ?_)
    refine rx_lts (fun σ13 => ?_)
    refine rx_aload_n C 1 dX11_law_55 rfl rfl ?_
    refine rx_iconst C dX11_law_56 ic_0 ?_
    refine rx_callVv C [.int (0 : Int32)] [] (m_X11_reads z.l C.inj (0 : Int32) σ13) mv_X11_reads lk_X11_376 sm_0 rfl rfl rfl (Nat.le_of_ble_eq_true rfl) ⟨Nat.le_of_ble_eq_true rfl, Nat.le_of_ble_eq_true rfl⟩ dX11_law_57 (fun q14 => ?_)
    refine rx_aload_n C 1 dX11_law_60 rfl rfl ?_
    refine rx_ldc2_w C lk_X11_285 dX11_law_61 ?_
    refine rx_callVv C [.long (2003330414 : Int64)] [] (m_X11_must_ z.l C.inj (2003330414 : Int64) q14.2) mv_X11_must_ lk_X11_369 sm_0 rfl rfl rfl (Nat.le_of_ble_eq_true rfl) ⟨Nat.le_of_ble_eq_true rfl, Nat.le_of_ble_eq_true rfl⟩ dX11_law_64 (fun q15 => ?_)
    refine rx_aload_n C 1 dX11_law_67 rfl rfl ?_
    refine rx_getC C (k := 29) sm_0 fc_X11 (by decide) 18 rfl lk_X11_100 dX11_law_68 ?_
    refine rx_iload_n C 0 dX11_law_71 rfl rfl ?_
    refine rx_aload_n C 1 dX11_law_72 rfl rfl ?_
    refine rx_getI C (k := 37) sm_0 fc_X11 (by decide) rfl lk_X11_124 dX11_law_73 ?_
    refine rx_iast C (n := 16) sm_18 dX11_law_76 (fun _ => ?_)
    refine rx_lts (fun σ16 => ?_)
    refine rx_aload_n C 1 dX11_law_77 rfl rfl ?_
    refine rx_getI C (k := 8) sm_0 fc_X11 (by decide) rfl lk_X11_36 dX11_law_78 ?_
    refine rx_if_ne C (tgt := 89) dX11_law_81 (by decide) (fun _ => ?_) (fun _ => ?_)
    · refine rx_aload_n C 1 dX11_law_84 rfl rfl ?_
      refine rx_iconst C dX11_law_85 ic_1 ?_
      refine rx_callVv C [.int (1 : Int32)] [] (m_X11_reads z.l C.inj (1 : Int32) σ16) mv_X11_reads lk_X11_376 sm_0 rfl rfl rfl (Nat.le_of_ble_eq_true rfl) ⟨Nat.le_of_ble_eq_true rfl, Nat.le_of_ble_eq_true rfl⟩ dX11_law_86 (fun q17 => ?_)
      exact RX.loc (w_X11_law_89 C w12 q17.2) [1, 0] rfl
    · exact RX.loc (w_X11_law_89 C w12 σ16) [1, 0] rfl
set_option maxRecDepth 100000 in
set_option maxHeartbeats 4000000 in
theorem w_X11_law_e {α : Nat → Nat} {D : va_G} {cA : Nat → ClassId} {z : Cz} (C : CX shM α D cA z RX11 cX11_law 2 none 5 113) (σ : St) : RX emV shM α D cA z 2 σ 0 [(0, .ref (α 0))] [] (f_X11_law σ) := by
  unfold f_X11_law
  refine rx_aload_n C 0 dX11_law_0 rfl rfl ?_
  refine rx_aload_n C 0 dX11_law_1 rfl rfl ?_
  refine rx_getC C (k := 27) sm_0 fc_X11 (by decide) 16 rfl lk_X11_94 dX11_law_2 ?_
  refine rx_aload_n C 0 dX11_law_5 rfl rfl ?_
  refine rx_getI C (k := 38) sm_0 fc_X11 (by decide) rfl lk_X11_127 dX11_law_6 ?_
  refine rx_iald C (n := 2) sm_16 dX11_law_9 (fun _ => ?_)
  refine rx_bipush C dX11_law_10 bp_8 ?_
  refine rx_icmp_ne C (tgt := 19) dX11_law_12 (by decide) (fun _ => ?_) (fun _ => ?_)
  · refine rx_iconst C dX11_law_15 ic_1 ?_
    refine rx_goto C (tgt := 20) dX11_law_16 (by decide) ?_
    exact RX.loc (w_X11_law_20 C (1 : Int32) σ) [0] rfl
  · refine rx_iconst C dX11_law_19 ic_0 ?_
    exact RX.loc (w_X11_law_20 C (0 : Int32) σ) [0] rfl
theorem m_X11_law (l : Launch) {α : Nat → Nat} {D : va_G} {cA : Nat → ClassId} (hin : inj shM.length α) (σ : St) : CT shM l yX11_law cX11_law 2 none 5 113 emV α D cA [.ref (α 0)] σ (f_X11_law σ) := ct_of rfl (Nat.le_of_ble_eq_true rfl) hin (fun z _ C => w_X11_law_e C σ)
set_option maxRecDepth 100000 in
set_option maxHeartbeats 4000000 in
theorem w_X11_bridge_87 {α : Nat → Nat} {D : va_G} {cA : Nat → ClassId} {z : Cz} (C : CX shM α D cA z RX11 cX11_bridge 2 none 3 70) (σ : St) : RX emV shM α D cA z 2 σ 87 [] [] (f_X11_bridge_87 σ) := by
  unfold f_X11_bridge_87
  exact rx_vret C dX11_bridge_87
set_option maxRecDepth 100000 in
set_option maxHeartbeats 4000000 in
theorem w_X11_bridge_19 {α : Nat → Nat} {D : va_G} {cA : Nat → ClassId} {z : Cz} (C : CX shM α D cA z RX11 cX11_bridge 2 none 3 70) (s1 : Int32) (σ : St) : RX emV shM α D cA z 2 σ 19 [(0, .ref (α 0))] [.int s1, .ref (α 0)] (f_X11_bridge_19 s1 σ) := by
  unfold f_X11_bridge_19
  refine rx_callVi C [.int s1] [] (m_X11_counts z.l C.inj s1 σ) mv_X11_counts lk_X11_353 sm_0 rfl rfl rfl (Nat.le_of_ble_eq_true rfl) ⟨Nat.le_of_ble_eq_true rfl, Nat.le_of_ble_eq_true rfl⟩ dX11_bridge_19 (fun q9 => ?_)
  refine rx_if_ne C (tgt := 26) dX11_bridge_22 (by decide) (fun _ => ?_) (fun _ => ?_)
  · exact rx_vret C dX11_bridge_25
  · refine rx_iconst C dX11_bridge_26 ic_4 ?_
    refine rx_aload_n C 0 dX11_bridge_27 rfl rfl ?_
    refine rx_getI C (k := 38) sm_0 fc_X11 (by decide) rfl lk_X11_127 dX11_bridge_28 ?_
    refine rx_imul C dX11_bridge_31 ?_
    refine rx_aload_n C 0 dX11_bridge_32 rfl rfl ?_
    refine rx_getC C (k := 31) sm_0 fc_X11 (by decide) 20 rfl lk_X11_106 dX11_bridge_33 ?_
    refine rx_aload_n C 0 dX11_bridge_36 rfl rfl ?_
    refine rx_getI C (k := 38) sm_0 fc_X11 (by decide) rfl lk_X11_127 dX11_bridge_37 ?_
    refine rx_iald C (n := 2) sm_20 dX11_bridge_40 (fun _ => ?_)
    refine rx_iadd C dX11_bridge_41 ?_
    refine rx_lti (fun w10 => ?_)
    refine rx_istore_n C [(1, .int w10), (0, .ref (α 0))] dX11_bridge_42 rfl (by decide) rfl ?_
    refine rx_aload_n C 1 dX11_bridge_43 rfl rfl ?_
    refine rx_getC C (k := 32) sm_0 fc_X11 (by decide) 21 rfl lk_X11_109 dX11_bridge_44 ?_
    refine rx_iload_n C 0 dX11_bridge_47 rfl rfl ?_
    refine rx_aload_n C 1 dX11_bridge_48 rfl rfl ?_
    refine rx_callVl C [] [.int w10, .ref (α 21)] (m_X11_fresh z.l C.inj q9.2) mv_X11_fresh lk_X11_365 sm_0 rfl rfl rfl (Nat.le_of_ble_eq_true rfl) ⟨Nat.le_of_ble_eq_true rfl, Nat.le_of_ble_eq_true rfl⟩ dX11_bridge_49 (fun q11 => ?_)
    refine rx_last C (n := 8) sm_21 dX11_bridge_52 (fun _ => ?_)
    refine rx_lts (fun σ12 => ?_)
    refine rx_aload_n C 1 dX11_bridge_53 rfl rfl ?_
    refine rx_getC C (k := 33) sm_0 fc_X11 (by decide) 22 rfl lk_X11_112 dX11_bridge_54 ?_
    refine rx_iload_n C 0 dX11_bridge_57 rfl rfl ?_
    refine rx_aload_n C 1 dX11_bridge_58 rfl rfl ?_
    refine rx_iconst C dX11_bridge_59 ic_0 ?_
    refine rx_sipush C dX11_bridge_60 sp_9999 ?_
    refine rx_callVi C [.int (0 : Int32), .int (9999 : Int32)] [.int w10, .ref (α 22)] (m_X11_number z.l C.inj (0 : Int32) (9999 : Int32) σ12) mv_X11_number lk_X11_361 sm_0 rfl rfl rfl (Nat.le_of_ble_eq_true rfl) ⟨Nat.le_of_ble_eq_true rfl, Nat.le_of_ble_eq_true rfl⟩ dX11_bridge_63 (fun q13 => ?_)
    refine rx_iast C (n := 8) sm_22 dX11_bridge_66 (fun _ => ?_)
    refine rx_lts (fun σ14 => ?_)
    refine rx_aload_n C 1 dX11_bridge_67 rfl rfl ?_
    refine rx_getI C (k := 8) sm_0 fc_X11 (by decide) rfl lk_X11_36 dX11_bridge_68 ?_
    refine rx_if_ne C (tgt := 87) dX11_bridge_71 (by decide) (fun _ => ?_) (fun _ => ?_)
    · refine rx_aload_n C 1 dX11_bridge_74 rfl rfl ?_
      refine rx_getC C (k := 31) sm_0 fc_X11 (by decide) 20 rfl lk_X11_106 dX11_bridge_75 ?_
      refine rx_aload_n C 1 dX11_bridge_78 rfl rfl ?_
      refine rx_getI C (k := 38) sm_0 fc_X11 (by decide) rfl lk_X11_127 dX11_bridge_79 ?_
      refine rx_lti (fun w15 => ?_)
      refine rx_dup2 C dX11_bridge_82 rfl rfl ?_
      refine rx_iald C (n := 2) sm_20 dX11_bridge_83 (fun _ => ?_)
      refine rx_iconst C dX11_bridge_84 ic_1 ?_
      refine rx_iadd C dX11_bridge_85 ?_
      refine rx_iast C (n := 2) sm_20 dX11_bridge_86 (fun _ => ?_)
      refine rx_lts (fun σ16 => ?_)
      exact RX.loc (w_X11_bridge_87 C σ16) [] rfl
    · exact RX.loc (w_X11_bridge_87 C σ14) [] rfl
set_option maxRecDepth 100000 in
set_option maxHeartbeats 4000000 in
theorem w_X11_bridge_e {α : Nat → Nat} {D : va_G} {cA : Nat → ClassId} {z : Cz} (C : CX shM α D cA z RX11 cX11_bridge 2 none 3 70) (σ : St) : RX emV shM α D cA z 2 σ 0 [(0, .ref (α 0))] [] (f_X11_bridge σ) := by
  unfold f_X11_bridge
  refine rx_aload_n C 0 dX11_bridge_0 rfl rfl ?_
  refine rx_aload_n C 0 dX11_bridge_1 rfl rfl ?_
  refine rx_getC C (k := 31) sm_0 fc_X11 (by decide) 20 rfl lk_X11_106 dX11_bridge_2 ?_
  refine rx_aload_n C 0 dX11_bridge_5 rfl rfl ?_
  refine rx_getI C (k := 38) sm_0 fc_X11 (by decide) rfl lk_X11_127 dX11_bridge_6 ?_
  refine rx_iald C (n := 2) sm_20 dX11_bridge_9 (fun _ => ?_)
  refine rx_iconst C dX11_bridge_10 ic_4 ?_
  refine rx_icmp_ne C (tgt := 18) dX11_bridge_11 (by decide) (fun _ => ?_) (fun _ => ?_)
  · refine rx_iconst C dX11_bridge_14 ic_1 ?_
    refine rx_goto C (tgt := 19) dX11_bridge_15 (by decide) ?_
    exact RX.loc (w_X11_bridge_19 C (1 : Int32) σ) [0] rfl
  · refine rx_iconst C dX11_bridge_18 ic_0 ?_
    exact RX.loc (w_X11_bridge_19 C (0 : Int32) σ) [0] rfl
theorem m_X11_bridge (l : Launch) {α : Nat → Nat} {D : va_G} {cA : Nat → ClassId} (hin : inj shM.length α) (σ : St) : CT shM l yX11_bridge cX11_bridge 2 none 3 70 emV α D cA [.ref (α 0)] σ (f_X11_bridge σ) := ct_of rfl (Nat.le_of_ble_eq_true rfl) hin (fun z _ C => w_X11_bridge_e C σ)
set_option maxRecDepth 100000 in
set_option maxHeartbeats 4000000 in
theorem w_X11_dating_e {α : Nat → Nat} {D : va_G} {cA : Nat → ClassId} {z : Cz} (C : CX shM α D cA z RX11 cX11_dating 1 none 3 70) (σ : St) : RX emV shM α D cA z 1 σ 0 [(0, .ref (α 0))] [] (f_X11_dating σ) := by
  unfold f_X11_dating
  refine rx_aload_n C 0 dX11_dating_0 rfl rfl ?_
  refine rx_iconst C dX11_dating_1 ic_0 ?_
  refine rx_callVi C [.int (0 : Int32)] [] (m_X11_counts z.l C.inj (0 : Int32) σ) mv_X11_counts lk_X11_353 sm_0 rfl rfl rfl (Nat.le_of_ble_eq_true rfl) ⟨Nat.le_of_ble_eq_true rfl, Nat.le_of_ble_eq_true rfl⟩ dX11_dating_2 (fun q4 => ?_)
  refine rx_if_ne C (tgt := 9) dX11_dating_5 (by decide) (fun _ => ?_) (fun _ => ?_)
  · exact rx_vret C dX11_dating_8
  · refine rx_aload_n C 0 dX11_dating_9 rfl rfl ?_
    refine rx_getC C (k := 34) sm_0 fc_X11 (by decide) 23 rfl lk_X11_115 dX11_dating_10 ?_
    refine rx_aload_n C 0 dX11_dating_13 rfl rfl ?_
    refine rx_getI C (k := 38) sm_0 fc_X11 (by decide) rfl lk_X11_127 dX11_dating_14 ?_
    refine rx_aload_n C 0 dX11_dating_17 rfl rfl ?_
    refine rx_iconst C dX11_dating_18 ic_0 ?_
    refine rx_bipush C dX11_dating_19 bp_99 ?_
    refine rx_callVi C [.int (0 : Int32), .int (99 : Int32)] [.int (gI q4.2 0 38), .ref (α 23)] (m_X11_number z.l C.inj (0 : Int32) (99 : Int32) q4.2) mv_X11_number lk_X11_361 sm_0 rfl rfl rfl (Nat.le_of_ble_eq_true rfl) ⟨Nat.le_of_ble_eq_true rfl, Nat.le_of_ble_eq_true rfl⟩ dX11_dating_21 (fun q5 => ?_)
    refine rx_iast C (n := 2) sm_23 dX11_dating_24 (fun _ => ?_)
    refine rx_lts (fun σ6 => ?_)
    exact rx_vret C dX11_dating_25
theorem m_X11_dating (l : Launch) {α : Nat → Nat} {D : va_G} {cA : Nat → ClassId} (hin : inj shM.length α) (σ : St) : CT shM l yX11_dating cX11_dating 1 none 3 70 emV α D cA [.ref (α 0)] σ (f_X11_dating σ) := ct_of rfl (Nat.le_of_ble_eq_true rfl) hin (fun z _ C => w_X11_dating_e C σ)
set_option maxRecDepth 100000 in
set_option maxHeartbeats 4000000 in
theorem w_X11_others_77 {α : Nat → Nat} {D : va_G} {cA : Nat → ClassId} {z : Cz} (C : CX shM α D cA z RX11 cX11_others 1 none 6 134) (σ : St) : RX emV shM α D cA z 1 σ 77 [] [] (f_X11_others_77 σ) := by
  unfold f_X11_others_77
  exact rx_vret C dX11_others_77
set_option maxRecDepth 100000 in
set_option maxHeartbeats 4000000 in
theorem w_X11_others_e {α : Nat → Nat} {D : va_G} {cA : Nat → ClassId} {z : Cz} (C : CX shM α D cA z RX11 cX11_others 1 none 6 134) (σ : St) : RX emV shM α D cA z 1 σ 0 [(0, .ref (α 0))] [] (f_X11_others σ) := by
  unfold f_X11_others
  refine rx_aload_n C 0 dX11_others_0 rfl rfl ?_
  refine rx_ldc2_w C lk_X11_277 dX11_others_1 ?_
  refine rx_callVi C [.long (6383461 : Int64)] [] (m_X11_isWord z.l C.inj (6383461 : Int64) σ) mv_X11_isWord lk_X11_325 sm_0 rfl rfl rfl (Nat.le_of_ble_eq_true rfl) ⟨Nat.le_of_ble_eq_true rfl, Nat.le_of_ble_eq_true rfl⟩ dX11_others_4 (fun q10 => ?_)
  refine rx_if_eq C (tgt := 17) dX11_others_7 (by decide) (fun _ => ?_) (fun _ => ?_)
  · refine rx_aload_n C 0 dX11_others_17 rfl rfl ?_
    refine rx_ldc2_w C lk_X11_279 dX11_others_18 ?_
    refine rx_callVi C [.long (422607680115 : Int64)] [] (m_X11_isWord z.l C.inj (422607680115 : Int64) q10.2) mv_X11_isWord lk_X11_325 sm_0 rfl rfl rfl (Nat.le_of_ble_eq_true rfl) ⟨Nat.le_of_ble_eq_true rfl, Nat.le_of_ble_eq_true rfl⟩ dX11_others_21 (fun q11 => ?_)
    refine rx_if_eq C (tgt := 34) dX11_others_24 (by decide) (fun _ => ?_) (fun _ => ?_)
    · refine rx_aload_n C 0 dX11_others_34 rfl rfl ?_
      refine rx_ldc2_w C lk_X11_281 dX11_others_35 ?_
      refine rx_callVi C [.long (108243533981541 : Int64)] [] (m_X11_isWord z.l C.inj (108243533981541 : Int64) q11.2) mv_X11_isWord lk_X11_325 sm_0 rfl rfl rfl (Nat.le_of_ble_eq_true rfl) ⟨Nat.le_of_ble_eq_true rfl, Nat.le_of_ble_eq_true rfl⟩ dX11_others_38 (fun q12 => ?_)
      refine rx_if_eq C (tgt := 51) dX11_others_41 (by decide) (fun _ => ?_) (fun _ => ?_)
      · refine rx_aload_n C 0 dX11_others_51 rfl rfl ?_
        refine rx_ldc2_w C lk_X11_283 dX11_others_52 ?_
        refine rx_callVi C [.long (2036687218 : Int64)] [] (m_X11_isWord z.l C.inj (2036687218 : Int64) q12.2) mv_X11_isWord lk_X11_325 sm_0 rfl rfl rfl (Nat.le_of_ble_eq_true rfl) ⟨Nat.le_of_ble_eq_true rfl, Nat.le_of_ble_eq_true rfl⟩ dX11_others_55 (fun q13 => ?_)
        refine rx_if_eq C (tgt := 68) dX11_others_58 (by decide) (fun _ => ?_) (fun _ => ?_)
        · refine rx_aload_n C 0 dX11_others_68 rfl rfl ?_
          refine rx_iconst C dX11_others_69 ic_1 ?_
          refine rx_aload_n C 0 dX11_others_70 rfl rfl ?_
          refine rx_getI C (k := 4) sm_0 fc_X11 (by decide) rfl lk_X11_23 dX11_others_71 ?_
          refine rx_callVv C [.int (1 : Int32), .int (gI q13.2 0 4)] [] (m_X11_blame z.l C.inj (1 : Int32) (gI q13.2 0 4) q13.2) mv_X11_blame lk_X11_249 sm_0 rfl rfl rfl (Nat.le_of_ble_eq_true rfl) ⟨Nat.le_of_ble_eq_true rfl, Nat.le_of_ble_eq_true rfl⟩ dX11_others_74 (fun q14 => ?_)
          exact RX.loc (w_X11_others_77 C q14.2) [] rfl
        · refine rx_aload_n C 0 dX11_others_61 rfl rfl ?_
          refine rx_callVv C [] [] (m_X11_dating z.l C.inj q13.2) mv_X11_dating lk_X11_409 sm_0 rfl rfl rfl (Nat.le_of_ble_eq_true rfl) ⟨Nat.le_of_ble_eq_true rfl, Nat.le_of_ble_eq_true rfl⟩ dX11_others_62 (fun q15 => ?_)
          refine rx_goto C (tgt := 77) dX11_others_65 (by decide) ?_
          exact RX.loc (w_X11_others_77 C q15.2) [] rfl
      · refine rx_aload_n C 0 dX11_others_44 rfl rfl ?_
        refine rx_callVv C [] [] (m_X11_bridge z.l C.inj q12.2) mv_X11_bridge lk_X11_406 sm_0 rfl rfl rfl (Nat.le_of_ble_eq_true rfl) ⟨Nat.le_of_ble_eq_true rfl, Nat.le_of_ble_eq_true rfl⟩ dX11_others_45 (fun q16 => ?_)
        refine rx_goto C (tgt := 77) dX11_others_48 (by decide) ?_
        exact RX.loc (w_X11_others_77 C q16.2) [] rfl
    · refine rx_aload_n C 0 dX11_others_27 rfl rfl ?_
      refine rx_callVv C [] [] (m_X11_law z.l C.inj q11.2) mv_X11_law lk_X11_403 sm_0 rfl rfl rfl (Nat.le_of_ble_eq_true rfl) ⟨Nat.le_of_ble_eq_true rfl, Nat.le_of_ble_eq_true rfl⟩ dX11_others_28 (fun q17 => ?_)
      refine rx_goto C (tgt := 77) dX11_others_31 (by decide) ?_
      exact RX.loc (w_X11_others_77 C q17.2) [] rfl
  · refine rx_aload_n C 0 dX11_others_10 rfl rfl ?_
    refine rx_callVv C [] [] (m_X11_ageing z.l C.inj q10.2) mv_X11_ageing lk_X11_400 sm_0 rfl rfl rfl (Nat.le_of_ble_eq_true rfl) ⟨Nat.le_of_ble_eq_true rfl, Nat.le_of_ble_eq_true rfl⟩ dX11_others_11 (fun q18 => ?_)
    refine rx_goto C (tgt := 77) dX11_others_14 (by decide) ?_
    exact RX.loc (w_X11_others_77 C q18.2) [] rfl
theorem m_X11_others (l : Launch) {α : Nat → Nat} {D : va_G} {cA : Nat → ClassId} (hin : inj shM.length α) (σ : St) : CT shM l yX11_others cX11_others 1 none 6 134 emV α D cA [.ref (α 0)] σ (f_X11_others σ) := ct_of rfl (Nat.le_of_ble_eq_true rfl) hin (fun z _ C => w_X11_others_e C σ)
set_option maxRecDepth 100000 in
set_option maxHeartbeats 4000000 in
theorem w_X11_statement_102 {α : Nat → Nat} {D : va_G} {cA : Nat → ClassId} {z : Cz} (C : CX shM α D cA z RX11 cX11_statement 1 none 7 154) (σ : St) : RX emV shM α D cA z 1 σ 102 [] [] (f_X11_statement_102 σ) := by
  unfold f_X11_statement_102
  exact rx_vret C dX11_statement_102
set_option maxRecDepth 100000 in
set_option maxHeartbeats 4000000 in
theorem w_X11_statement_89 {α : Nat → Nat} {D : va_G} {cA : Nat → ClassId} {z : Cz} (C : CX shM α D cA z RX11 cX11_statement 1 none 7 154) (σ : St) : RX emV shM α D cA z 1 σ 89 [(0, .ref (α 0))] [] (f_X11_statement_89 σ) := by
  unfold f_X11_statement_89
  refine rx_aload_n C 0 dX11_statement_89 rfl rfl ?_
  refine rx_getI C (k := 8) sm_0 fc_X11 (by decide) rfl lk_X11_36 dX11_statement_90 ?_
  refine rx_if_ne C (tgt := 102) dX11_statement_93 (by decide) (fun _ => ?_) (fun _ => ?_)
  · refine rx_aload_n C 0 dX11_statement_96 rfl rfl ?_
    refine rx_bipush C dX11_statement_97 bp_59 ?_
    refine rx_callVv C [.int (59 : Int32)] [] (m_X11_must z.l C.inj (59 : Int32) σ) mv_X11_must lk_X11_398 sm_0 rfl rfl rfl (Nat.le_of_ble_eq_true rfl) ⟨Nat.le_of_ble_eq_true rfl, Nat.le_of_ble_eq_true rfl⟩ dX11_statement_99 (fun q19 => ?_)
    exact RX.loc (w_X11_statement_102 C q19.2) [] rfl
  · exact RX.loc (w_X11_statement_102 C σ) [] rfl
set_option maxRecDepth 100000 in
set_option maxHeartbeats 4000000 in
theorem w_X11_statement_e {α : Nat → Nat} {D : va_G} {cA : Nat → ClassId} {z : Cz} (C : CX shM α D cA z RX11 cX11_statement 1 none 7 154) (σ : St) : RX emV shM α D cA z 1 σ 0 [(0, .ref (α 0))] [] (f_X11_statement σ) := by
  unfold f_X11_statement
  refine rx_aload_n C 0 dX11_statement_0 rfl rfl ?_
  refine rx_ldc2_w C lk_X11_259 dX11_statement_1 ?_
  refine rx_callVi C [.long (119183001281906 : Int64)] [] (m_X11_isWord z.l C.inj (119183001281906 : Int64) σ) mv_X11_isWord lk_X11_325 sm_0 rfl rfl rfl (Nat.le_of_ble_eq_true rfl) ⟨Nat.le_of_ble_eq_true rfl, Nat.le_of_ble_eq_true rfl⟩ dX11_statement_4 (fun q13 => ?_)
  refine rx_if_eq C (tgt := 17) dX11_statement_7 (by decide) (fun _ => ?_) (fun _ => ?_)
  · refine rx_aload_n C 0 dX11_statement_17 rfl rfl ?_
    refine rx_ldc2_w C lk_X11_261 dX11_statement_18 ?_
    refine rx_callVi C [.long (123581014175598 : Int64)] [] (m_X11_isWord z.l C.inj (123581014175598 : Int64) q13.2) mv_X11_isWord lk_X11_325 sm_0 rfl rfl rfl (Nat.le_of_ble_eq_true rfl) ⟨Nat.le_of_ble_eq_true rfl, Nat.le_of_ble_eq_true rfl⟩ dX11_statement_21 (fun q14 => ?_)
    refine rx_if_eq C (tgt := 34) dX11_statement_24 (by decide) (fun _ => ?_) (fun _ => ?_)
    · refine rx_aload_n C 0 dX11_statement_34 rfl rfl ?_
      refine rx_ldc2_w C lk_X11_269 dX11_statement_35 ?_
      refine rx_callVi C [.long (499985443941 : Int64)] [] (m_X11_isWord z.l C.inj (499985443941 : Int64) q14.2) mv_X11_isWord lk_X11_325 sm_0 rfl rfl rfl (Nat.le_of_ble_eq_true rfl) ⟨Nat.le_of_ble_eq_true rfl, Nat.le_of_ble_eq_true rfl⟩ dX11_statement_38 (fun q15 => ?_)
      refine rx_if_eq C (tgt := 51) dX11_statement_41 (by decide) (fun _ => ?_) (fun _ => ?_)
      · refine rx_aload_n C 0 dX11_statement_51 rfl rfl ?_
        refine rx_ldc2_w C lk_X11_273 dX11_statement_52 ?_
        refine rx_callVi C [.long (6840691 : Int64)] [] (m_X11_isWord z.l C.inj (6840691 : Int64) q15.2) mv_X11_isWord lk_X11_325 sm_0 rfl rfl rfl (Nat.le_of_ble_eq_true rfl) ⟨Nat.le_of_ble_eq_true rfl, Nat.le_of_ble_eq_true rfl⟩ dX11_statement_55 (fun q16 => ?_)
        refine rx_if_eq C (tgt := 68) dX11_statement_58 (by decide) (fun _ => ?_) (fun _ => ?_)
        · refine rx_aload_n C 0 dX11_statement_68 rfl rfl ?_
          refine rx_ldc2_w C lk_X11_275 dX11_statement_69 ?_
          refine rx_callVi C [.long (1751474544 : Int64)] [] (m_X11_isWord z.l C.inj (1751474544 : Int64) q16.2) mv_X11_isWord lk_X11_325 sm_0 rfl rfl rfl (Nat.le_of_ble_eq_true rfl) ⟨Nat.le_of_ble_eq_true rfl, Nat.le_of_ble_eq_true rfl⟩ dX11_statement_72 (fun q17 => ?_)
          refine rx_if_eq C (tgt := 85) dX11_statement_75 (by decide) (fun _ => ?_) (fun _ => ?_)
          · refine rx_aload_n C 0 dX11_statement_85 rfl rfl ?_
            refine rx_callVv C [] [] (m_X11_others z.l C.inj q17.2) mv_X11_others lk_X11_395 sm_0 rfl rfl rfl (Nat.le_of_ble_eq_true rfl) ⟨Nat.le_of_ble_eq_true rfl, Nat.le_of_ble_eq_true rfl⟩ dX11_statement_86 (fun q18 => ?_)
            exact RX.loc (w_X11_statement_89 C q18.2) [0] rfl
          · refine rx_aload_n C 0 dX11_statement_78 rfl rfl ?_
            refine rx_callVv C [] [] (m_X11_heaping z.l C.inj q17.2) mv_X11_heaping lk_X11_392 sm_0 rfl rfl rfl (Nat.le_of_ble_eq_true rfl) ⟨Nat.le_of_ble_eq_true rfl, Nat.le_of_ble_eq_true rfl⟩ dX11_statement_79 (fun q20 => ?_)
            refine rx_goto C (tgt := 89) dX11_statement_82 (by decide) ?_
            exact RX.loc (w_X11_statement_89 C q20.2) [0] rfl
        · refine rx_aload_n C 0 dX11_statement_61 rfl rfl ?_
          refine rx_callVv C [] [] (m_X11_having z.l C.inj q16.2) mv_X11_having lk_X11_389 sm_0 rfl rfl rfl (Nat.le_of_ble_eq_true rfl) ⟨Nat.le_of_ble_eq_true rfl, Nat.le_of_ble_eq_true rfl⟩ dX11_statement_62 (fun q21 => ?_)
          refine rx_goto C (tgt := 89) dX11_statement_65 (by decide) ?_
          exact RX.loc (w_X11_statement_89 C q21.2) [0] rfl
      · refine rx_aload_n C 0 dX11_statement_44 rfl rfl ?_
        refine rx_callVv C [] [] (m_X11_title z.l C.inj q15.2) mv_X11_title lk_X11_386 sm_0 rfl rfl rfl (Nat.le_of_ble_eq_true rfl) ⟨Nat.le_of_ble_eq_true rfl, Nat.le_of_ble_eq_true rfl⟩ dX11_statement_45 (fun q22 => ?_)
        refine rx_goto C (tgt := 89) dX11_statement_48 (by decide) ?_
        exact RX.loc (w_X11_statement_89 C q22.2) [0] rfl
    · refine rx_aload_n C 0 dX11_statement_27 rfl rfl ?_
      refine rx_callVv C [] [] (m_X11_person z.l C.inj q14.2) mv_X11_person lk_X11_383 sm_0 rfl rfl rfl (Nat.le_of_ble_eq_true rfl) ⟨Nat.le_of_ble_eq_true rfl, Nat.le_of_ble_eq_true rfl⟩ dX11_statement_28 (fun q23 => ?_)
      refine rx_goto C (tgt := 89) dX11_statement_31 (by decide) ?_
      exact RX.loc (w_X11_statement_89 C q23.2) [0] rfl
  · refine rx_aload_n C 0 dX11_statement_10 rfl rfl ?_
    refine rx_callVv C [] [] (m_X11_weighs z.l C.inj q13.2) mv_X11_weighs lk_X11_380 sm_0 rfl rfl rfl (Nat.le_of_ble_eq_true rfl) ⟨Nat.le_of_ble_eq_true rfl, Nat.le_of_ble_eq_true rfl⟩ dX11_statement_11 (fun q24 => ?_)
    refine rx_goto C (tgt := 89) dX11_statement_14 (by decide) ?_
    exact RX.loc (w_X11_statement_89 C q24.2) [0] rfl
theorem m_X11_statement (l : Launch) {α : Nat → Nat} {D : va_G} {cA : Nat → ClassId} (hin : inj shM.length α) (σ : St) : CT shM l yX11_statement cX11_statement 1 none 7 154 emV α D cA [.ref (α 0)] σ (f_X11_statement σ) := ct_of rfl (Nat.le_of_ble_eq_true rfl) hin (fun z _ C => w_X11_statement_e C σ)
set_option maxRecDepth 100000 in
set_option maxHeartbeats 4000000 in
theorem w_X11_begins_117 {α : Nat → Nat} {D : va_G} {cA : Nat → ClassId} {z : Cz} (C : CX shM α D cA z RX11 cX11_begins 3 none 0 0) : ∀ (n : Nat) (x1 : Int32) (σ : St), RX emV shM α D cA z 3 σ 117 [(0, .ref (α 0)), (1, .int x1)] [] (f_X11_begins_117 n x1 σ) := by
  intro n
  induction n with
  | zero => intros; exact rx_none
  | succ n hk_117 =>
    intro x1 σ
    rw [f_X11_begins_117.eq_2]
    refine rx_iload_n C 1 dX11_begins_117 rfl rfl ?_
    refine rx_bipush C dX11_begins_118 bp_26 ?_
    refine rx_icmp_ge C (tgt := 153) dX11_begins_120 (by decide) (fun _ => ?_) (fun _ => ?_)
    · refine rx_aload_n C 0 dX11_begins_153 rfl rfl ?_
      refine rx_iconst C dX11_begins_154 ic_0 ?_
      refine rx_putI C (k := 55) sm_0 fc_X11 (by decide) rfl lk_X11_180 rfl ⟨rfl, rfl⟩ dX11_begins_155 ?_
      refine rx_lts (fun σ12 => ?_)
      refine rx_aload_n C 0 dX11_begins_158 rfl rfl ?_
      refine rx_iconst C dX11_begins_159 ic_0 ?_
      refine rx_putI C (k := 56) sm_0 fc_X11 (by decide) rfl lk_X11_183 rfl ⟨rfl, rfl⟩ dX11_begins_160 ?_
      refine rx_lts (fun σ13 => ?_)
      refine rx_aload_n C 0 dX11_begins_163 rfl rfl ?_
      refine rx_iconst C dX11_begins_164 ic_0 ?_
      refine rx_putI C (k := 60) sm_0 fc_X11 (by decide) rfl lk_X11_195 rfl ⟨rfl, rfl⟩ dX11_begins_165 ?_
      refine rx_lts (fun σ14 => ?_)
      refine rx_aload_n C 0 dX11_begins_168 rfl rfl ?_
      refine rx_iconst C dX11_begins_169 ic_0 ?_
      refine rx_putI C (k := 62) sm_0 fc_X11 (by decide) rfl lk_X11_201 rfl ⟨rfl, rfl⟩ dX11_begins_170 ?_
      refine rx_lts (fun σ15 => ?_)
      refine rx_aload_n C 0 dX11_begins_173 rfl rfl ?_
      refine rx_iconst C dX11_begins_174 ic_0 ?_
      refine rx_putI C (k := 64) sm_0 fc_X11 (by decide) rfl lk_X11_207 rfl ⟨rfl, rfl⟩ dX11_begins_175 ?_
      refine rx_lts (fun σ16 => ?_)
      exact rx_vret C dX11_begins_178
    · refine rx_aload_n C 0 dX11_begins_123 rfl rfl ?_
      refine rx_getC C (k := 54) sm_0 fc_X11 (by decide) 36 rfl lk_X11_177 dX11_begins_124 ?_
      refine rx_sipush C dX11_begins_127 sp_208 ?_
      refine rx_iload_n C 1 dX11_begins_130 rfl rfl ?_
      refine rx_iadd C dX11_begins_131 ?_
      refine rx_aload_n C 0 dX11_begins_132 rfl rfl ?_
      refine rx_getC C (k := 23) sm_0 fc_X11 (by decide) 12 rfl lk_X11_82 dX11_begins_133 ?_
      refine rx_bipush C dX11_begins_136 bp_26 ?_
      refine rx_aload_n C 0 dX11_begins_138 rfl rfl ?_
      refine rx_getI C (k := 12) sm_0 fc_X11 (by decide) rfl lk_X11_48 dX11_begins_139 ?_
      refine rx_imul C dX11_begins_142 ?_
      refine rx_iload_n C 1 dX11_begins_143 rfl rfl ?_
      refine rx_iadd C dX11_begins_144 ?_
      refine rx_iald C (n := 52) sm_12 dX11_begins_145 (fun _ => ?_)
      refine rx_iast C (n := 234) sm_36 dX11_begins_146 (fun _ => ?_)
      refine rx_lts (fun σ17 => ?_)
      refine rx_iinc C (k0 := 1) (v := x1 + (1 : Int32)) [(1, .int (x1 + (1 : Int32))), (0, .ref (α 0))] dX11_begins_147 rfl (congrArg _ ic_1) (by decide) rfl ?_
      refine rx_goto C (tgt := 117) dX11_begins_150 (by decide) ?_
      exact RX.loc (hk_117 (x1 + (1 : Int32)) σ17) [1, 0] rfl
set_option maxRecDepth 100000 in
set_option maxHeartbeats 4000000 in
theorem w_X11_begins_95 {α : Nat → Nat} {D : va_G} {cA : Nat → ClassId} {z : Cz} (C : CX shM α D cA z RX11 cX11_begins 3 none 0 0) : ∀ (n : Nat) (x1 : Int32) (σ : St), RX emV shM α D cA z 3 σ 95 [(0, .ref (α 0)), (1, .int x1)] [] (f_X11_begins_95 n x1 σ) := by
  intro n
  induction n with
  | zero => intros; exact rx_none
  | succ n hk_95 =>
    intro x1 σ
    rw [f_X11_begins_95.eq_2]
    refine rx_iload_n C 1 dX11_begins_95 rfl rfl ?_
    refine rx_sipush C dX11_begins_96 sp_208 ?_
    refine rx_icmp_ge C (tgt := 115) dX11_begins_99 (by decide) (fun _ => ?_) (fun _ => ?_)
    · refine rx_iconst C dX11_begins_115 ic_0 ?_
      refine rx_istore_n C [(1, .int (0 : Int32)), (0, .ref (α 0))] dX11_begins_116 rfl (by decide) rfl ?_
      exact RX.loc (w_X11_begins_117 C FU (0 : Int32) σ) [1, 0] rfl
    · refine rx_aload_n C 0 dX11_begins_102 rfl rfl ?_
      refine rx_getC C (k := 54) sm_0 fc_X11 (by decide) 36 rfl lk_X11_177 dX11_begins_103 ?_
      refine rx_iload_n C 1 dX11_begins_106 rfl rfl ?_
      refine rx_iconst C dX11_begins_107 ic_0 ?_
      refine rx_iast C (n := 234) sm_36 dX11_begins_108 (fun _ => ?_)
      refine rx_lts (fun σ18 => ?_)
      refine rx_iinc C (k0 := 1) (v := x1 + (1 : Int32)) [(1, .int (x1 + (1 : Int32))), (0, .ref (α 0))] dX11_begins_109 rfl (congrArg _ ic_1) (by decide) rfl ?_
      refine rx_goto C (tgt := 95) dX11_begins_112 (by decide) ?_
      exact RX.loc (hk_95 (x1 + (1 : Int32)) σ18) [1, 0] rfl
set_option maxRecDepth 100000 in
set_option maxHeartbeats 4000000 in
theorem w_X11_begins_60 {α : Nat → Nat} {D : va_G} {cA : Nat → ClassId} {z : Cz} (C : CX shM α D cA z RX11 cX11_begins 3 none 0 0) (k_15 : Int32 → St → Option (Unit × St)) (hk_15 : ∀ (x1 : Int32) (σ : St), RX emV shM α D cA z 3 σ 15 [(0, .ref (α 0)), (1, .int x1)] [] (k_15 x1 σ)) : ∀ (n : Nat) (x1 : Int32) (x2 : Int32) (σ : St), RX emV shM α D cA z 3 σ 60 [(0, .ref (α 0)), (1, .int x1), (2, .int x2)] [] (f_X11_begins_60 k_15 n x1 x2 σ) := by
  intro n
  induction n with
  | zero => intros; exact rx_none
  | succ n hk_60 =>
    intro x1 x2 σ
    rw [f_X11_begins_60.eq_2]
    refine rx_iload_n C 2 dX11_begins_60 rfl rfl ?_
    refine rx_bipush C dX11_begins_61 bp_12 ?_
    refine rx_icmp_ge C (tgt := 87) dX11_begins_63 (by decide) (fun _ => ?_) (fun _ => ?_)
    · refine rx_iinc C (k0 := 1) (v := x1 + (1 : Int32)) [(1, .int (x1 + (1 : Int32))), (0, .ref (α 0)), (2, .int x2)] dX11_begins_87 rfl (congrArg _ ic_1) (by decide) rfl ?_
      refine rx_goto C (tgt := 15) dX11_begins_90 (by decide) ?_
      exact RX.loc (hk_15 (x1 + (1 : Int32)) σ) [1, 0] rfl
    · refine rx_aload_n C 0 dX11_begins_66 rfl rfl ?_
      refine rx_getC C (k := 66) sm_0 fc_X11 (by decide) 43 rfl lk_X11_213 dX11_begins_67 ?_
      refine rx_bipush C dX11_begins_70 bp_12 ?_
      refine rx_iload_n C 1 dX11_begins_72 rfl rfl ?_
      refine rx_imul C dX11_begins_73 ?_
      refine rx_iload_n C 2 dX11_begins_74 rfl rfl ?_
      refine rx_iadd C dX11_begins_75 ?_
      refine rx_aload_n C 0 dX11_begins_76 rfl rfl ?_
      refine rx_getI C (k := 52) sm_0 fc_X11 (by decide) rfl lk_X11_171 dX11_begins_77 ?_
      refine rx_iast C (n := 96) sm_43 dX11_begins_80 (fun _ => ?_)
      refine rx_lts (fun σ20 => ?_)
      refine rx_iinc C (k0 := 2) (v := x2 + (1 : Int32)) [(2, .int (x2 + (1 : Int32))), (0, .ref (α 0)), (1, .int x1)] dX11_begins_81 rfl (congrArg _ ic_1) (by decide) rfl ?_
      refine rx_goto C (tgt := 60) dX11_begins_84 (by decide) ?_
      exact RX.loc (hk_60 x1 (x2 + (1 : Int32)) σ20) [1, 2, 0] rfl
set_option maxRecDepth 100000 in
set_option maxHeartbeats 4000000 in
theorem w_X11_begins_57 {α : Nat → Nat} {D : va_G} {cA : Nat → ClassId} {z : Cz} (C : CX shM α D cA z RX11 cX11_begins 3 none 0 0) (k_15 : Int32 → St → Option (Unit × St)) (hk_15 : ∀ (x1 : Int32) (σ : St), RX emV shM α D cA z 3 σ 15 [(0, .ref (α 0)), (1, .int x1)] [] (k_15 x1 σ)) (x1 : Int32) (s2 : Int32) (s1 : Int32) (σ : St) : RX emV shM α D cA z 3 σ 57 [(0, .ref (α 0)), (1, .int x1)] [.int s2, .int s1, .ref (α 35)] (f_X11_begins_57 k_15 x1 s2 s1 σ) := by
  unfold f_X11_begins_57
  refine rx_iast C (n := 8) sm_35 dX11_begins_57 (fun _ => ?_)
  refine rx_lts (fun σ19 => ?_)
  refine rx_iconst C dX11_begins_58 ic_0 ?_
  refine rx_istore_n C [(2, .int (0 : Int32)), (0, .ref (α 0)), (1, .int x1)] dX11_begins_59 rfl (by decide) rfl ?_
  exact RX.loc (w_X11_begins_60 C k_15 hk_15 FU x1 (0 : Int32) σ19) [1, 2, 0] rfl
set_option maxRecDepth 100000 in
set_option maxHeartbeats 4000000 in
theorem w_X11_begins_15 {α : Nat → Nat} {D : va_G} {cA : Nat → ClassId} {z : Cz} (C : CX shM α D cA z RX11 cX11_begins 3 none 0 0) : ∀ (n : Nat) (x1 : Int32) (σ : St), RX emV shM α D cA z 3 σ 15 [(0, .ref (α 0)), (1, .int x1)] [] (f_X11_begins_15 n x1 σ) := by
  intro n
  induction n with
  | zero => intros; exact rx_none
  | succ n hk_15 =>
    intro x1 σ
    rw [f_X11_begins_15.eq_2]
    refine rx_iload_n C 1 dX11_begins_15 rfl rfl ?_
    refine rx_bipush C dX11_begins_16 bp_8 ?_
    refine rx_icmp_ge C (tgt := 93) dX11_begins_18 (by decide) (fun _ => ?_) (fun _ => ?_)
    · refine rx_iconst C dX11_begins_93 ic_0 ?_
      refine rx_istore_n C [(1, .int (0 : Int32)), (0, .ref (α 0))] dX11_begins_94 rfl (by decide) rfl ?_
      exact RX.loc (w_X11_begins_95 C FU (0 : Int32) σ) [1, 0] rfl
    · refine rx_aload_n C 0 dX11_begins_21 rfl rfl ?_
      refine rx_getC C (k := 53) sm_0 fc_X11 (by decide) 35 rfl lk_X11_174 dX11_begins_22 ?_
      refine rx_iload_n C 1 dX11_begins_25 rfl rfl ?_
      refine rx_iload_n C 1 dX11_begins_26 rfl rfl ?_
      refine rx_aload_n C 0 dX11_begins_27 rfl rfl ?_
      refine rx_getC C (k := 14) sm_0 fc_X11 (by decide) 3 rfl lk_X11_54 dX11_begins_28 ?_
      refine rx_aload_n C 0 dX11_begins_31 rfl rfl ?_
      refine rx_getI C (k := 12) sm_0 fc_X11 (by decide) rfl lk_X11_48 dX11_begins_32 ?_
      refine rx_iald C (n := 2) sm_3 dX11_begins_35 (fun _ => ?_)
      refine rx_icmp_ge C (tgt := 56) dX11_begins_36 (by decide) (fun _ => ?_) (fun _ => ?_)
      · refine rx_iconst C dX11_begins_56 ic_0 ?_
        exact RX.loc (w_X11_begins_57 C (f_X11_begins_15 n) hk_15 x1 (0 : Int32) x1 σ) [0, 1] rfl
      · refine rx_aload_n C 0 dX11_begins_39 rfl rfl ?_
        refine rx_getC C (k := 19) sm_0 fc_X11 (by decide) 8 rfl lk_X11_70 dX11_begins_40 ?_
        refine rx_bipush C dX11_begins_43 bp_8 ?_
        refine rx_aload_n C 0 dX11_begins_45 rfl rfl ?_
        refine rx_getI C (k := 12) sm_0 fc_X11 (by decide) rfl lk_X11_48 dX11_begins_46 ?_
        refine rx_imul C dX11_begins_49 ?_
        refine rx_iload_n C 1 dX11_begins_50 rfl rfl ?_
        refine rx_iadd C dX11_begins_51 ?_
        refine rx_iald C (n := 16) sm_8 dX11_begins_52 (fun _ => ?_)
        refine rx_goto C (tgt := 57) dX11_begins_53 (by decide) ?_
        exact RX.loc (w_X11_begins_57 C (f_X11_begins_15 n) hk_15 x1 (gI σ 8 (ix (((8 : Int32) * (gI σ 0 12)) + x1))) x1 σ) [0, 1] rfl
set_option maxRecDepth 100000 in
set_option maxHeartbeats 4000000 in
theorem w_X11_begins_e {α : Nat → Nat} {D : va_G} {cA : Nat → ClassId} {z : Cz} (C : CX shM α D cA z RX11 cX11_begins 3 none 0 0) (σ : St) : RX emV shM α D cA z 3 σ 0 [(0, .ref (α 0))] [] (f_X11_begins σ) := by
  unfold f_X11_begins
  refine rx_aload_n C 0 dX11_begins_0 rfl rfl ?_
  refine rx_aload_n C 0 dX11_begins_1 rfl rfl ?_
  refine rx_getC C (k := 34) sm_0 fc_X11 (by decide) 23 rfl lk_X11_115 dX11_begins_2 ?_
  refine rx_aload_n C 0 dX11_begins_5 rfl rfl ?_
  refine rx_getI C (k := 12) sm_0 fc_X11 (by decide) rfl lk_X11_48 dX11_begins_6 ?_
  refine rx_iald C (n := 2) sm_23 dX11_begins_9 (fun _ => ?_)
  refine rx_putI C (k := 52) sm_0 fc_X11 (by decide) rfl lk_X11_171 rfl ⟨rfl, rfl⟩ dX11_begins_10 ?_
  refine rx_lts (fun σ11 => ?_)
  refine rx_iconst C dX11_begins_13 ic_0 ?_
  refine rx_istore_n C [(1, .int (0 : Int32)), (0, .ref (α 0))] dX11_begins_14 rfl (by decide) rfl ?_
  exact RX.loc (w_X11_begins_15 C FU (0 : Int32) σ11) [1, 0] rfl
theorem m_X11_begins (l : Launch) {α : Nat → Nat} {D : va_G} {cA : Nat → ClassId} (hin : inj shM.length α) (σ : St) : CT shM l yX11_begins cX11_begins 3 none 0 0 emV α D cA [.ref (α 0)] σ (f_X11_begins σ) := ct_of rfl (Nat.le_of_ble_eq_true rfl) hin (fun z _ C => w_X11_begins_e C σ)
set_option maxRecDepth 100000 in
set_option maxHeartbeats 4000000 in
theorem w_X11_land_178 {α : Nat → Nat} {D : va_G} {cA : Nat → ClassId} {z : Cz} (C : CX shM α D cA z RX11 cX11_land 2 (some .int) 8 174) (x1 : Int32) (σ : St) : RX emI shM α D cA z 2 σ 178 [(0, .ref (α 0)), (1, .int x1)] [] (f_X11_land_178 x1 σ) := by
  unfold f_X11_land_178
  refine rx_aload_n C 0 dX11_land_178 rfl rfl ?_
  refine rx_aload_n C 0 dX11_land_179 rfl rfl ?_
  refine rx_getI C (k := 8) sm_0 fc_X11 (by decide) rfl lk_X11_36 dX11_land_180 ?_
  refine rx_putI C (k := 10) sm_0 fc_X11 (by decide) rfl lk_X11_42 rfl ⟨rfl, rfl⟩ dX11_land_183 ?_
  refine rx_lts (fun σ37 => ?_)
  refine rx_aload_n C 0 dX11_land_186 rfl rfl ?_
  refine rx_aload_n C 0 dX11_land_187 rfl rfl ?_
  refine rx_getI C (k := 9) sm_0 fc_X11 (by decide) rfl lk_X11_39 dX11_land_188 ?_
  refine rx_putI C (k := 11) sm_0 fc_X11 (by decide) rfl lk_X11_45 rfl ⟨rfl, rfl⟩ dX11_land_191 ?_
  refine rx_lts (fun σ38 => ?_)
  refine rx_aload_n C 0 dX11_land_194 rfl rfl ?_
  refine rx_getI C (k := 8) sm_0 fc_X11 (by decide) rfl lk_X11_36 dX11_land_195 ?_
  refine rx_if_le C (tgt := 207) dX11_land_198 (by decide) (fun _ => ?_) (fun _ => ?_)
  · refine rx_aload_n C 0 dX11_land_207 rfl rfl ?_
    refine rx_aload_n C 0 dX11_land_208 rfl rfl ?_
    refine rx_getI C (k := 38) sm_0 fc_X11 (by decide) rfl lk_X11_127 dX11_land_209 ?_
    refine rx_putI C (k := 12) sm_0 fc_X11 (by decide) rfl lk_X11_48 rfl ⟨rfl, rfl⟩ dX11_land_212 ?_
    refine rx_lts (fun σ39 => ?_)
    refine rx_aload_n C 0 dX11_land_215 rfl rfl ?_
    refine rx_callVv C [] [] (m_X11_begins z.l C.inj σ39) mv_X11_begins lk_X11_415 sm_0 rfl rfl rfl (Nat.le_of_ble_eq_true rfl) ⟨Nat.le_of_ble_eq_true rfl, Nat.le_of_ble_eq_true rfl⟩ dX11_land_216 (fun q40 => ?_)
    refine rx_iload_n C 1 dX11_land_219 rfl rfl ?_
    exact rx_iret C dX11_land_220
  · refine rx_aload_n C 0 dX11_land_201 rfl rfl ?_
    refine rx_iconst C dX11_land_202 ic_1 ?_
    refine rx_callVi C [.int (1 : Int32)] [] (m_X11_refuses z.l C.inj (1 : Int32) σ38) mv_X11_refuses lk_X11_234 sm_0 rfl rfl rfl (Nat.le_of_ble_eq_true rfl) ⟨Nat.le_of_ble_eq_true rfl, Nat.le_of_ble_eq_true rfl⟩ dX11_land_203 (fun q41 => ?_)
    exact rx_iret C dX11_land_206
set_option maxRecDepth 100000 in
set_option maxHeartbeats 4000000 in
theorem w_X11_land_154 {α : Nat → Nat} {D : va_G} {cA : Nat → ClassId} {z : Cz} (C : CX shM α D cA z RX11 cX11_land 2 (some .int) 8 174) : ∀ (n : Nat) (x1 : Int32) (σ : St), RX emI shM α D cA z 2 σ 154 [(0, .ref (α 0)), (1, .int x1)] [] (f_X11_land_154 n x1 σ) := by
  intro n
  induction n with
  | zero => intros; exact rx_none
  | succ n hk_154 =>
    intro x1 σ
    rw [f_X11_land_154.eq_2]
    refine rx_aload_n C 0 dX11_land_154 rfl rfl ?_
    refine rx_getI C (k := 8) sm_0 fc_X11 (by decide) rfl lk_X11_36 dX11_land_155 ?_
    refine rx_if_ne C (tgt := 178) dX11_land_158 (by decide) (fun _ => ?_) (fun _ => ?_)
    · refine rx_aload_n C 0 dX11_land_161 rfl rfl ?_
      refine rx_getI C (k := 3) sm_0 fc_X11 (by decide) rfl lk_X11_20 dX11_land_162 ?_
      refine rx_if_eq C (tgt := 178) dX11_land_165 (by decide) (fun _ => ?_) (fun _ => ?_)
      · exact RX.loc (w_X11_land_178 C x1 σ) [0, 1] rfl
      · refine rx_aload_n C 0 dX11_land_168 rfl rfl ?_
        refine rx_callVv C [] [] (m_X11_statement z.l C.inj σ) mv_X11_statement lk_X11_412 sm_0 rfl rfl rfl (Nat.le_of_ble_eq_true rfl) ⟨Nat.le_of_ble_eq_true rfl, Nat.le_of_ble_eq_true rfl⟩ dX11_land_169 (fun q42 => ?_)
        refine rx_iinc C (k0 := 1) (v := x1 + (1 : Int32)) [(1, .int (x1 + (1 : Int32))), (0, .ref (α 0))] dX11_land_172 rfl (congrArg _ ic_1) (by decide) rfl ?_
        refine rx_goto C (tgt := 154) dX11_land_175 (by decide) ?_
        exact RX.loc (hk_154 (x1 + (1 : Int32)) q42.2) [1, 0] rfl
    · exact RX.loc (w_X11_land_178 C x1 σ) [0, 1] rfl
set_option maxRecDepth 100000 in
set_option maxHeartbeats 4000000 in
theorem w_X11_land_40 {α : Nat → Nat} {D : va_G} {cA : Nat → ClassId} {z : Cz} (C : CX shM α D cA z RX11 cX11_land 2 (some .int) 8 174) : ∀ (n : Nat) (x1 : Int32) (σ : St), RX emI shM α D cA z 2 σ 40 [(0, .ref (α 0)), (1, .int x1)] [] (f_X11_land_40 n x1 σ) := by
  intro n
  induction n with
  | zero => intros; exact rx_none
  | succ n hk_40 =>
    intro x1 σ
    rw [f_X11_land_40.eq_2]
    refine rx_iload_n C 1 dX11_land_40 rfl rfl ?_
    refine rx_bipush C dX11_land_41 bp_26 ?_
    refine rx_icmp_ge C (tgt := 83) dX11_land_43 (by decide) (fun _ => ?_) (fun _ => ?_)
    · refine rx_aload_n C 0 dX11_land_83 rfl rfl ?_
      refine rx_getC C (k := 14) sm_0 fc_X11 (by decide) 3 rfl lk_X11_54 dX11_land_84 ?_
      refine rx_aload_n C 0 dX11_land_87 rfl rfl ?_
      refine rx_getI C (k := 38) sm_0 fc_X11 (by decide) rfl lk_X11_127 dX11_land_88 ?_
      refine rx_iconst C dX11_land_91 ic_0 ?_
      refine rx_iast C (n := 2) sm_3 dX11_land_92 (fun _ => ?_)
      refine rx_lts (fun σ29 => ?_)
      refine rx_aload_n C 0 dX11_land_93 rfl rfl ?_
      refine rx_getC C (k := 20) sm_0 fc_X11 (by decide) 9 rfl lk_X11_73 dX11_land_94 ?_
      refine rx_aload_n C 0 dX11_land_97 rfl rfl ?_
      refine rx_getI C (k := 38) sm_0 fc_X11 (by decide) rfl lk_X11_127 dX11_land_98 ?_
      refine rx_iconst C dX11_land_101 ic_0 ?_
      refine rx_iast C (n := 2) sm_9 dX11_land_102 (fun _ => ?_)
      refine rx_lts (fun σ30 => ?_)
      refine rx_aload_n C 0 dX11_land_103 rfl rfl ?_
      refine rx_getC C (k := 24) sm_0 fc_X11 (by decide) 13 rfl lk_X11_85 dX11_land_104 ?_
      refine rx_aload_n C 0 dX11_land_107 rfl rfl ?_
      refine rx_getI C (k := 38) sm_0 fc_X11 (by decide) rfl lk_X11_127 dX11_land_108 ?_
      refine rx_iconst C dX11_land_111 ic_0 ?_
      refine rx_iast C (n := 2) sm_13 dX11_land_112 (fun _ => ?_)
      refine rx_lts (fun σ31 => ?_)
      refine rx_aload_n C 0 dX11_land_113 rfl rfl ?_
      refine rx_getC C (k := 27) sm_0 fc_X11 (by decide) 16 rfl lk_X11_94 dX11_land_114 ?_
      refine rx_aload_n C 0 dX11_land_117 rfl rfl ?_
      refine rx_getI C (k := 38) sm_0 fc_X11 (by decide) rfl lk_X11_127 dX11_land_118 ?_
      refine rx_iconst C dX11_land_121 ic_0 ?_
      refine rx_iast C (n := 2) sm_16 dX11_land_122 (fun _ => ?_)
      refine rx_lts (fun σ32 => ?_)
      refine rx_aload_n C 0 dX11_land_123 rfl rfl ?_
      refine rx_getC C (k := 31) sm_0 fc_X11 (by decide) 20 rfl lk_X11_106 dX11_land_124 ?_
      refine rx_aload_n C 0 dX11_land_127 rfl rfl ?_
      refine rx_getI C (k := 38) sm_0 fc_X11 (by decide) rfl lk_X11_127 dX11_land_128 ?_
      refine rx_iconst C dX11_land_131 ic_0 ?_
      refine rx_iast C (n := 2) sm_20 dX11_land_132 (fun _ => ?_)
      refine rx_lts (fun σ33 => ?_)
      refine rx_aload_n C 0 dX11_land_133 rfl rfl ?_
      refine rx_getC C (k := 34) sm_0 fc_X11 (by decide) 23 rfl lk_X11_115 dX11_land_134 ?_
      refine rx_aload_n C 0 dX11_land_137 rfl rfl ?_
      refine rx_getI C (k := 38) sm_0 fc_X11 (by decide) rfl lk_X11_127 dX11_land_138 ?_
      refine rx_iconst C dX11_land_141 ic_0 ?_
      refine rx_iast C (n := 2) sm_23 dX11_land_142 (fun _ => ?_)
      refine rx_lts (fun σ34 => ?_)
      refine rx_aload_n C 0 dX11_land_143 rfl rfl ?_
      refine rx_iconst C dX11_land_144 ic_0 ?_
      refine rx_putI C (k := 37) sm_0 fc_X11 (by decide) rfl lk_X11_124 rfl ⟨rfl, rfl⟩ dX11_land_145 ?_
      refine rx_lts (fun σ35 => ?_)
      refine rx_iconst C dX11_land_148 ic_0 ?_
      refine rx_istore_n C [(1, .int (0 : Int32)), (0, .ref (α 0))] dX11_land_149 rfl (by decide) rfl ?_
      refine rx_aload_n C 1 dX11_land_150 rfl rfl ?_
      refine rx_callVv C [] [] (m_X11_ahead z.l C.inj σ35) mv_X11_ahead lk_X11_256 sm_0 rfl rfl rfl (Nat.le_of_ble_eq_true rfl) ⟨Nat.le_of_ble_eq_true rfl, Nat.le_of_ble_eq_true rfl⟩ dX11_land_151 (fun q36 => ?_)
      exact RX.loc (w_X11_land_154 C FU (0 : Int32) q36.2) [1, 0] rfl
    · refine rx_aload_n C 0 dX11_land_46 rfl rfl ?_
      refine rx_getC C (k := 13) sm_0 fc_X11 (by decide) 2 rfl lk_X11_51 dX11_land_47 ?_
      refine rx_bipush C dX11_land_50 bp_26 ?_
      refine rx_aload_n C 0 dX11_land_52 rfl rfl ?_
      refine rx_getI C (k := 38) sm_0 fc_X11 (by decide) rfl lk_X11_127 dX11_land_53 ?_
      refine rx_imul C dX11_land_56 ?_
      refine rx_iload_n C 1 dX11_land_57 rfl rfl ?_
      refine rx_iadd C dX11_land_58 ?_
      refine rx_bipush C dX11_land_59 bp_10 ?_
      refine rx_iast C (n := 52) sm_2 dX11_land_61 (fun _ => ?_)
      refine rx_lts (fun σ43 => ?_)
      refine rx_aload_n C 0 dX11_land_62 rfl rfl ?_
      refine rx_getC C (k := 23) sm_0 fc_X11 (by decide) 12 rfl lk_X11_82 dX11_land_63 ?_
      refine rx_bipush C dX11_land_66 bp_26 ?_
      refine rx_aload_n C 0 dX11_land_68 rfl rfl ?_
      refine rx_getI C (k := 38) sm_0 fc_X11 (by decide) rfl lk_X11_127 dX11_land_69 ?_
      refine rx_imul C dX11_land_72 ?_
      refine rx_iload_n C 1 dX11_land_73 rfl rfl ?_
      refine rx_iadd C dX11_land_74 ?_
      refine rx_iconst C dX11_land_75 ic_0 ?_
      refine rx_iast C (n := 52) sm_12 dX11_land_76 (fun _ => ?_)
      refine rx_lts (fun σ44 => ?_)
      refine rx_iinc C (k0 := 1) (v := x1 + (1 : Int32)) [(1, .int (x1 + (1 : Int32))), (0, .ref (α 0))] dX11_land_77 rfl (congrArg _ ic_1) (by decide) rfl ?_
      refine rx_goto C (tgt := 40) dX11_land_80 (by decide) ?_
      exact RX.loc (hk_40 (x1 + (1 : Int32)) σ44) [1, 0] rfl
set_option maxRecDepth 100000 in
set_option maxHeartbeats 4000000 in
theorem w_X11_land_e {α : Nat → Nat} {D : va_G} {cA : Nat → ClassId} {z : Cz} (C : CX shM α D cA z RX11 cX11_land 2 (some .int) 8 174) (σ : St) : RX emI shM α D cA z 2 σ 0 [(0, .ref (α 0))] [] (f_X11_land σ) := by
  unfold f_X11_land
  refine rx_aload_n C 0 dX11_land_0 rfl rfl ?_
  refine rx_aload_n C 0 dX11_land_1 rfl rfl ?_
  refine rx_getI C (k := 1) sm_0 fc_X11 (by decide) rfl lk_X11_13 dX11_land_2 ?_
  refine rx_putI C (k := 2) sm_0 fc_X11 (by decide) rfl lk_X11_17 rfl ⟨rfl, rfl⟩ dX11_land_5 ?_
  refine rx_lts (fun σ23 => ?_)
  refine rx_aload_n C 0 dX11_land_8 rfl rfl ?_
  refine rx_iconst C dX11_land_9 ic_0 ?_
  refine rx_putI C (k := 1) sm_0 fc_X11 (by decide) rfl lk_X11_13 rfl ⟨rfl, rfl⟩ dX11_land_10 ?_
  refine rx_lts (fun σ24 => ?_)
  refine rx_aload_n C 0 dX11_land_13 rfl rfl ?_
  refine rx_iconst C dX11_land_14 ic_0 ?_
  refine rx_putI C (k := 5) sm_0 fc_X11 (by decide) rfl lk_X11_26 rfl ⟨rfl, rfl⟩ dX11_land_15 ?_
  refine rx_lts (fun σ25 => ?_)
  refine rx_aload_n C 0 dX11_land_18 rfl rfl ?_
  refine rx_iconst C dX11_land_19 ic_0 ?_
  refine rx_putI C (k := 8) sm_0 fc_X11 (by decide) rfl lk_X11_36 rfl ⟨rfl, rfl⟩ dX11_land_20 ?_
  refine rx_lts (fun σ26 => ?_)
  refine rx_aload_n C 0 dX11_land_23 rfl rfl ?_
  refine rx_iconst C dX11_land_24 ic_m1 ?_
  refine rx_putI C (k := 9) sm_0 fc_X11 (by decide) rfl lk_X11_39 rfl ⟨rfl, rfl⟩ dX11_land_25 ?_
  refine rx_lts (fun σ27 => ?_)
  refine rx_aload_n C 0 dX11_land_28 rfl rfl ?_
  refine rx_iconst C dX11_land_29 ic_1 ?_
  refine rx_aload_n C 0 dX11_land_30 rfl rfl ?_
  refine rx_getI C (k := 12) sm_0 fc_X11 (by decide) rfl lk_X11_48 dX11_land_31 ?_
  refine rx_isub C dX11_land_34 ?_
  refine rx_putI C (k := 38) sm_0 fc_X11 (by decide) rfl lk_X11_127 rfl ⟨rfl, rfl⟩ dX11_land_35 ?_
  refine rx_lts (fun σ28 => ?_)
  refine rx_iconst C dX11_land_38 ic_0 ?_
  refine rx_istore_n C [(1, .int (0 : Int32)), (0, .ref (α 0))] dX11_land_39 rfl (by decide) rfl ?_
  exact RX.loc (w_X11_land_40 C FU (0 : Int32) σ28) [1, 0] rfl
theorem m_X11_land (l : Launch) {α : Nat → Nat} {D : va_G} {cA : Nat → ClassId} (hin : inj shM.length α) (σ : St) : CT shM l yX11_land cX11_land 2 (some .int) 8 174 emI α D cA [.ref (α 0)] σ (f_X11_land σ) := ct_of rfl (Nat.le_of_ble_eq_true rfl) hin (fun z _ C => w_X11_land_e C σ)
