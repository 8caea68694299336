set_option maxRecDepth 100000 in
set_option maxHeartbeats 4000000 in
theorem w_X3_isLightEnough_246 {α : Nat → Nat} {D : va_G} {cA : Nat → ClassId} {z : Cz} (C : CX shX α D cA z RX3 cX3_isLightEnough 15 (some .boolean) 3 65) (r0 : Nat) (hr0 : arI r0) (s0 : Int32) (σ : St) : RX emI shX α D cA z 15 σ 246 [] [.int s0] (f_X3_isLightEnough_246 r0 s0 σ) := by
  unfold f_X3_isLightEnough_246
  exact rx_zret C dX3_isLightEnough_246
set_option maxRecDepth 100000 in
set_option maxHeartbeats 4000000 in
theorem w_X3_isLightEnough_245 {α : Nat → Nat} {D : va_G} {cA : Nat → ClassId} {z : Cz} (C : CX shX α D cA z RX3 cX3_isLightEnough 15 (some .boolean) 3 65) (r0 : Nat) (hr0 : arI r0) (σ : St) : RX emI shX α D cA z 15 σ 245 [] [] (f_X3_isLightEnough_245 r0 σ) := by
  unfold f_X3_isLightEnough_245
  refine rx_iconst C dX3_isLightEnough_245 ic_0 ?_
  exact RX.loc (w_X3_isLightEnough_246 C r0 hr0 (0 : Int32) σ) [] rfl
set_option maxRecDepth 100000 in
set_option maxHeartbeats 4000000 in
theorem w_X3_isLightEnough_175 {α : Nat → Nat} {D : va_G} {cA : Nat → ClassId} {z : Cz} (C : CX shX α D cA z RX3 cX3_isLightEnough 15 (some .boolean) 3 65) (r0 : Nat) (hr0 : arI r0) (k_70 : Nat → Int64 → Int64 → Int32 → St → Option (Int32 × St)) (hk_70 : ∀ (r2_ : Nat) (hr2_ : isLand r2_) (y4 : Int64) (y6 : Int64) (x9 : Int32) (σ : St), RX emI shX α D cA z 15 σ 70 [(0, .ref (α r0)), (2, .ref (α r2_)), (4, .long y4), (6, .long y6), (9, .int x9)] [] (k_70 r2_ y4 y6 x9 σ)) (k_155 : Nat → Int64 → Int64 → Int32 → Int32 → Int32 → Int32 → St → Option (Int32 × St)) (hk_155 : ∀ (r2_ : Nat) (hr2_ : isLand r2_) (y4 : Int64) (y6 : Int64) (x9 : Int32) (x10 : Int32) (x11 : Int32) (x13 : Int32) (σ : St), RX emI shX α D cA z 15 σ 155 [(0, .ref (α r0)), (2, .ref (α r2_)), (4, .long y4), (6, .long y6), (9, .int x9), (10, .int x10), (11, .int x11), (13, .int x13)] [] (k_155 r2_ y4 y6 x9 x10 x11 x13 σ)) (r2_ : Nat) (hr2_ : isLand r2_) (y4 : Int64) (y6 : Int64) (x9 : Int32) (x10 : Int32) (x11 : Int32) (x13 : Int32) (s2 : Int32) (s1 : Int32) (σ : St) : RX emI shX α D cA z 15 σ 175 [(0, .ref (α r0)), (2, .ref (α r2_)), (4, .long y4), (6, .long y6), (9, .int x9), (10, .int x10), (11, .int x11), (13, .int x13)] [.int s2, .int s1, .ref (α r0)] (f_X3_isLightEnough_175 r0 k_70 k_155 r2_ y4 y6 x9 x10 x11 x13 s2 s1 σ) := by
  unfold f_X3_isLightEnough_175
  refine rx_iadd C dX3_isLightEnough_175 ?_
  refine rx_iconst C dX3_isLightEnough_176 ic_2 ?_
  refine rx_iload C 7 dX3_isLightEnough_177 rfl ?_
  refine rx_imul C dX3_isLightEnough_179 ?_
  refine rx_iadd C dX3_isLightEnough_180 ?_
  refine rx_iconst C dX3_isLightEnough_181 ic_2 ?_
  refine rx_callSi C [.ref (α r0), .int ((s1 + s2) + ((2 : Int32) * x13)), .int (2 : Int32)] [] (m_X3_number z.l C.inj r0 hr0 ((s1 + s2) + ((2 : Int32) * x13)) (2 : Int32) σ) ms_X3_number lk_X3_75 rfl rfl (Nat.le_of_ble_eq_true rfl) ⟨Nat.le_of_ble_eq_true rfl, Nat.le_of_ble_eq_true rfl⟩ dX3_isLightEnough_182 (fun q29 => ?_)
  refine rx_istore C [(14, .int q29.1), (0, .ref (α r0)), (2, .ref (α r2_)), (4, .long y4), (6, .long y6), (9, .int x9), (10, .int x10), (11, .int x11), (13, .int x13)] dX3_isLightEnough_185 (by decide) rfl ?_
  refine rx_lload C 3 dX3_isLightEnough_187 rfl ?_
  refine rx_iload C 0 dX3_isLightEnough_189 rfl ?_
  refine rx_i2l C dX3_isLightEnough_191 ?_
  refine rx_aload_n C 2 dX3_isLightEnough_192 rfl rfl ?_
  refine rx_iload C 8 dX3_isLightEnough_193 rfl ?_
  refine rx_callVi C [.int x13] [.long ((q29.1).toInt64), .long y4] (m_X4_ouncesOf z.l C.inj r2_ hr2_ x13 q29.2) mv_X4_ouncesOf lk_X3_101 (ld_sh hr2_) rfl rfl rfl (Nat.le_of_ble_eq_true rfl) ⟨Nat.le_of_ble_eq_true rfl, Nat.le_of_ble_eq_true rfl⟩ dX3_isLightEnough_195 (fun q30 => ?_)
  refine rx_i2l C dX3_isLightEnough_198 ?_
  refine rx_lmul C dX3_isLightEnough_199 ?_
  refine rx_ladd C dX3_isLightEnough_200 ?_
  refine rx_ltl (fun w31 => ?_)
  refine rx_lstore C [(4, .long w31), (14, .int q29.1), (0, .ref (α r0)), (2, .ref (α r2_)), (6, .long y6), (9, .int x9), (10, .int x10), (11, .int x11), (13, .int x13)] dX3_isLightEnough_201 (by decide) rfl ?_
  refine rx_lload C 4 dX3_isLightEnough_203 rfl ?_
  refine rx_iload C 1 dX3_isLightEnough_205 rfl ?_
  refine rx_i2l C dX3_isLightEnough_207 ?_
  refine rx_ladd C dX3_isLightEnough_208 ?_
  refine rx_ltl (fun w32 => ?_)
  refine rx_lstore C [(6, .long w32), (4, .long w31), (14, .int q29.1), (0, .ref (α r0)), (2, .ref (α r2_)), (9, .int x9), (10, .int x10), (11, .int x11), (13, .int x13)] dX3_isLightEnough_209 (by decide) rfl ?_
  refine rx_iinc C (k0 := 8) (v := x13 + (1 : Int32)) [(13, .int (x13 + (1 : Int32))), (6, .long w32), (4, .long w31), (14, .int q29.1), (0, .ref (α r0)), (2, .ref (α r2_)), (9, .int x9), (10, .int x10), (11, .int x11)] dX3_isLightEnough_211 rfl (congrArg _ ic_1) (by decide) rfl ?_
  refine rx_goto C (tgt := 155) dX3_isLightEnough_214 (by decide) ?_
  exact RX.loc (hk_155 r2_ hr2_ w31 w32 x9 x10 x11 (x13 + (1 : Int32)) q30.2) [4, 5, 2, 1, 6, 7, 8, 0] rfl
set_option maxRecDepth 100000 in
set_option maxHeartbeats 4000000 in
theorem w_X3_isLightEnough_155 {α : Nat → Nat} {D : va_G} {cA : Nat → ClassId} {z : Cz} (C : CX shX α D cA z RX3 cX3_isLightEnough 15 (some .boolean) 3 65) (r0 : Nat) (hr0 : arI r0) (k_70 : Nat → Int64 → Int64 → Int32 → St → Option (Int32 × St)) (hk_70 : ∀ (r2_ : Nat) (hr2_ : isLand r2_) (y4 : Int64) (y6 : Int64) (x9 : Int32) (σ : St), RX emI shX α D cA z 15 σ 70 [(0, .ref (α r0)), (2, .ref (α r2_)), (4, .long y4), (6, .long y6), (9, .int x9)] [] (k_70 r2_ y4 y6 x9 σ)) : ∀ (n : Nat) (r2_ : Nat) (hr2_ : isLand r2_) (y4 : Int64) (y6 : Int64) (x9 : Int32) (x10 : Int32) (x11 : Int32) (x13 : Int32) (σ : St), RX emI shX α D cA z 15 σ 155 [(0, .ref (α r0)), (2, .ref (α r2_)), (4, .long y4), (6, .long y6), (9, .int x9), (10, .int x10), (11, .int x11), (13, .int x13)] [] (f_X3_isLightEnough_155 r0 k_70 n r2_ y4 y6 x9 x10 x11 x13 σ) := by
  intro n
  induction n with
  | zero => intros; exact rx_none
  | succ n hk_155 =>
    intro r2_ hr2_ y4 y6 x9 x10 x11 x13 σ
    rw [f_X3_isLightEnough_155.eq_2]
    refine rx_iload C 7 dX3_isLightEnough_155 rfl ?_
    refine rx_bipush C dX3_isLightEnough_157 bp_26 ?_
    refine rx_icmp_ge C (tgt := 217) dX3_isLightEnough_159 (by decide) (fun _ => ?_) (fun _ => ?_)
    · refine rx_iinc C (k0 := 4) (v := x9 + (1 : Int32)) [(9, .int (x9 + (1 : Int32))), (0, .ref (α r0)), (2, .ref (α r2_)), (4, .long y4), (6, .long y6), (10, .int x10), (11, .int x11), (13, .int x13)] dX3_isLightEnough_217 rfl (congrArg _ ic_1) (by decide) rfl ?_
      refine rx_goto C (tgt := 70) dX3_isLightEnough_220 (by decide) ?_
      exact RX.loc (hk_70 r2_ hr2_ y4 y6 (x9 + (1 : Int32)) σ) [1, 2, 3, 4, 0] rfl
    · refine rx_aload_n C 0 dX3_isLightEnough_162 rfl rfl ?_
      refine rx_iload C 5 dX3_isLightEnough_163 rfl ?_
      refine rx_iload C 6 dX3_isLightEnough_165 rfl ?_
      refine rx_if_eq C (tgt := 174) dX3_isLightEnough_167 (by decide) (fun _ => ?_) (fun _ => ?_)
      · refine rx_iconst C dX3_isLightEnough_174 ic_2 ?_
        exact RX.loc (w_X3_isLightEnough_175 C r0 hr0 k_70 hk_70 (f_X3_isLightEnough_155 r0 k_70 n) hk_155 r2_ hr2_ y4 y6 x9 x10 x11 x13 (2 : Int32) x10 σ) [0, 1, 2, 3, 4, 5, 6, 7] rfl
      · refine rx_iconst C dX3_isLightEnough_170 ic_0 ?_
        refine rx_goto C (tgt := 175) dX3_isLightEnough_171 (by decide) ?_
        exact RX.loc (w_X3_isLightEnough_175 C r0 hr0 k_70 hk_70 (f_X3_isLightEnough_155 r0 k_70 n) hk_155 r2_ hr2_ y4 y6 x9 x10 x11 x13 (0 : Int32) x10 σ) [0, 1, 2, 3, 4, 5, 6, 7] rfl
set_option maxRecDepth 100000 in
set_option maxHeartbeats 4000000 in
theorem w_X3_isLightEnough_126 {α : Nat → Nat} {D : va_G} {cA : Nat → ClassId} {z : Cz} (C : CX shX α D cA z RX3 cX3_isLightEnough 15 (some .boolean) 3 65) (r0 : Nat) (hr0 : arI r0) (k_70 : Nat → Int64 → Int64 → Int32 → St → Option (Int32 × St)) (hk_70 : ∀ (r2_ : Nat) (hr2_ : isLand r2_) (y4 : Int64) (y6 : Int64) (x9 : Int32) (σ : St), RX emI shX α D cA z 15 σ 70 [(0, .ref (α r0)), (2, .ref (α r2_)), (4, .long y4), (6, .long y6), (9, .int x9)] [] (k_70 r2_ y4 y6 x9 σ)) (r2_ : Nat) (hr2_ : isLand r2_) (y4 : Int64) (y6 : Int64) (x9 : Int32) (x10 : Int32) (x11 : Int32) (s0 : Int32) (σ : St) : RX emI shX α D cA z 15 σ 126 [(0, .ref (α r0)), (2, .ref (α r2_)), (4, .long y4), (6, .long y6), (9, .int x9), (10, .int x10), (11, .int x11)] [.int s0] (f_X3_isLightEnough_126 r0 k_70 r2_ y4 y6 x9 x10 x11 s0 σ) := by
  unfold f_X3_isLightEnough_126
  refine rx_istore C [(12, .int s0), (0, .ref (α r0)), (2, .ref (α r2_)), (4, .long y4), (6, .long y6), (9, .int x9), (10, .int x10), (11, .int x11)] dX3_isLightEnough_126 (by decide) rfl ?_
  refine rx_lload C 3 dX3_isLightEnough_128 rfl ?_
  refine rx_aload_n C 2 dX3_isLightEnough_130 rfl rfl ?_
  refine rx_iload C 0 dX3_isLightEnough_131 rfl ?_
  refine rx_callVi C [.int s0] [.long y4] (m_X4_ouncesOfSet z.l C.inj r2_ hr2_ s0 σ) mv_X4_ouncesOfSet lk_X3_94 (ld_sh hr2_) rfl rfl rfl (Nat.le_of_ble_eq_true rfl) ⟨Nat.le_of_ble_eq_true rfl, Nat.le_of_ble_eq_true rfl⟩ dX3_isLightEnough_133 (fun q25 => ?_)
  refine rx_i2l C dX3_isLightEnough_136 ?_
  refine rx_ladd C dX3_isLightEnough_137 ?_
  refine rx_ltl (fun w26 => ?_)
  refine rx_lstore C [(4, .long w26), (12, .int s0), (0, .ref (α r0)), (2, .ref (α r2_)), (6, .long y6), (9, .int x9), (10, .int x10), (11, .int x11)] dX3_isLightEnough_138 (by decide) rfl ?_
  refine rx_lload C 4 dX3_isLightEnough_140 rfl ?_
  refine rx_aload_n C 3 dX3_isLightEnough_142 rfl rfl ?_
  refine rx_iload C 1 dX3_isLightEnough_143 rfl ?_
  refine rx_callSi C [.ref (α r2_), .int s0] [.long y6] (m_X3_lettersOfSet z.l C.inj r2_ hr2_ s0 q25.2) ms_X3_lettersOfSet lk_X3_97 rfl rfl (Nat.le_of_ble_eq_true rfl) ⟨Nat.le_of_ble_eq_true rfl, Nat.le_of_ble_eq_true rfl⟩ dX3_isLightEnough_145 (fun q27 => ?_)
  refine rx_i2l C dX3_isLightEnough_148 ?_
  refine rx_ladd C dX3_isLightEnough_149 ?_
  refine rx_ltl (fun w28 => ?_)
  refine rx_lstore C [(6, .long w28), (4, .long w26), (12, .int s0), (0, .ref (α r0)), (2, .ref (α r2_)), (9, .int x9), (10, .int x10), (11, .int x11)] dX3_isLightEnough_150 (by decide) rfl ?_
  refine rx_iconst C dX3_isLightEnough_152 ic_0 ?_
  refine rx_istore C [(13, .int (0 : Int32)), (6, .long w28), (4, .long w26), (12, .int s0), (0, .ref (α r0)), (2, .ref (α r2_)), (9, .int x9), (10, .int x10), (11, .int x11)] dX3_isLightEnough_153 (by decide) rfl ?_
  exact RX.loc (w_X3_isLightEnough_155 C r0 hr0 k_70 hk_70 FU r2_ hr2_ w26 w28 x9 x10 x11 (0 : Int32) q27.2) [4, 5, 2, 1, 6, 7, 8, 0] rfl
set_option maxRecDepth 100000 in
set_option maxHeartbeats 4000000 in
theorem w_X3_isLightEnough_108 {α : Nat → Nat} {D : va_G} {cA : Nat → ClassId} {z : Cz} (C : CX shX α D cA z RX3 cX3_isLightEnough 15 (some .boolean) 3 65) (r0 : Nat) (hr0 : arI r0) (k_70 : Nat → Int64 → Int64 → Int32 → St → Option (Int32 × St)) (hk_70 : ∀ (r2_ : Nat) (hr2_ : isLand r2_) (y4 : Int64) (y6 : Int64) (x9 : Int32) (σ : St), RX emI shX α D cA z 15 σ 70 [(0, .ref (α r0)), (2, .ref (α r2_)), (4, .long y4), (6, .long y6), (9, .int x9)] [] (k_70 r2_ y4 y6 x9 σ)) (r2_ : Nat) (hr2_ : isLand r2_) (y4 : Int64) (y6 : Int64) (x9 : Int32) (x10 : Int32) (s0 : Int32) (σ : St) : RX emI shX α D cA z 15 σ 108 [(0, .ref (α r0)), (2, .ref (α r2_)), (4, .long y4), (6, .long y6), (9, .int x9), (10, .int x10)] [.int s0] (f_X3_isLightEnough_108 r0 k_70 r2_ y4 y6 x9 x10 s0 σ) := by
  unfold f_X3_isLightEnough_108
  refine rx_istore C [(11, .int s0), (0, .ref (α r0)), (2, .ref (α r2_)), (4, .long y4), (6, .long y6), (9, .int x9), (10, .int x10)] dX3_isLightEnough_108 (by decide) rfl ?_
  refine rx_iload C 0 dX3_isLightEnough_110 rfl ?_
  refine rx_if_eq C (tgt := 119) dX3_isLightEnough_112 (by decide) (fun _ => ?_) (fun _ => ?_)
  · refine rx_aload_n C 1 dX3_isLightEnough_119 rfl rfl ?_
    refine rx_iload C 6 dX3_isLightEnough_120 rfl ?_
    refine rx_iconst C dX3_isLightEnough_122 ic_2 ?_
    refine rx_callSi C [.ref (α r0), .int x10, .int (2 : Int32)] [] (m_X3_number z.l C.inj r0 hr0 x10 (2 : Int32) σ) ms_X3_number lk_X3_75 rfl rfl (Nat.le_of_ble_eq_true rfl) ⟨Nat.le_of_ble_eq_true rfl, Nat.le_of_ble_eq_true rfl⟩ dX3_isLightEnough_123 (fun q24 => ?_)
    exact RX.loc (w_X3_isLightEnough_126 C r0 hr0 k_70 hk_70 r2_ hr2_ y4 y6 x9 x10 s0 q24.1 q24.2) [1, 2, 3, 4, 5, 6, 0] rfl
  · refine rx_iconst C dX3_isLightEnough_115 ic_0 ?_
    refine rx_goto C (tgt := 126) dX3_isLightEnough_116 (by decide) ?_
    exact RX.loc (w_X3_isLightEnough_126 C r0 hr0 k_70 hk_70 r2_ hr2_ y4 y6 x9 x10 s0 (0 : Int32) σ) [1, 2, 3, 4, 5, 6, 0] rfl
set_option maxRecDepth 100000 in
set_option maxHeartbeats 4000000 in
theorem w_X3_isLightEnough_70 {α : Nat → Nat} {D : va_G} {cA : Nat → ClassId} {z : Cz} (C : CX shX α D cA z RX3 cX3_isLightEnough 15 (some .boolean) 3 65) (r0 : Nat) (hr0 : arI r0) : ∀ (n : Nat) (r2_ : Nat) (hr2_ : isLand r2_) (y4 : Int64) (y6 : Int64) (x9 : Int32) (σ : St), RX emI shX α D cA z 15 σ 70 [(0, .ref (α r0)), (2, .ref (α r2_)), (4, .long y4), (6, .long y6), (9, .int x9)] [] (f_X3_isLightEnough_70 r0 n r2_ y4 y6 x9 σ) := by
  intro n
  induction n with
  | zero => intros; exact rx_none
  | succ n hk_70 =>
    intro r2_ hr2_ y4 y6 x9 σ
    rw [f_X3_isLightEnough_70.eq_2]
    refine rx_iload C 4 dX3_isLightEnough_70 rfl ?_
    refine rx_aload_n C 1 dX3_isLightEnough_72 rfl rfl ?_
    refine rx_getC C (k := 0) (ld_sh hr2_) fc_X4 (by decide) (r2_ + 1) rfl lk_X3_32 dX3_isLightEnough_73 ?_
    refine rx_getI C (k := 4) (ro_sh (ld_1 hr2_)) fc_X8 (by decide) rfl lk_X3_38 dX3_isLightEnough_76 ?_
    refine rx_icmp_gt C (tgt := 223) dX3_isLightEnough_79 (by decide) (fun _ => ?_) (fun _ => ?_)
    · refine rx_lload C 2 dX3_isLightEnough_223 rfl ?_
      refine rx_ldc2_w C lk_X3_104 dX3_isLightEnough_225 ?_
      refine rx_lcmp C dX3_isLightEnough_228 ?_
      refine rx_if_gt C (tgt := 245) dX3_isLightEnough_229 (by decide) (fun _ => ?_) (fun _ => ?_)
      · exact RX.loc (w_X3_isLightEnough_245 C r0 hr0 σ) [] rfl
      · refine rx_lload C 3 dX3_isLightEnough_232 rfl ?_
        refine rx_ldc2_w C lk_X3_106 dX3_isLightEnough_234 ?_
        refine rx_lcmp C dX3_isLightEnough_237 ?_
        refine rx_if_gt C (tgt := 245) dX3_isLightEnough_238 (by decide) (fun _ => ?_) (fun _ => ?_)
        · exact RX.loc (w_X3_isLightEnough_245 C r0 hr0 σ) [] rfl
        · refine rx_iconst C dX3_isLightEnough_241 ic_1 ?_
          refine rx_goto C (tgt := 246) dX3_isLightEnough_242 (by decide) ?_
          exact RX.loc (w_X3_isLightEnough_246 C r0 hr0 (1 : Int32) σ) [] rfl
    · refine rx_iconst C dX3_isLightEnough_82 ic_2 ?_
      refine rx_iload C 4 dX3_isLightEnough_83 rfl ?_
      refine rx_bipush C dX3_isLightEnough_85 bp_54 ?_
      refine rx_imul C dX3_isLightEnough_87 ?_
      refine rx_iadd C dX3_isLightEnough_88 ?_
      refine rx_lti (fun w23 => ?_)
      refine rx_istore C [(10, .int w23), (0, .ref (α r0)), (2, .ref (α r2_)), (4, .long y4), (6, .long y6), (9, .int x9)] dX3_isLightEnough_89 (by decide) rfl ?_
      refine rx_iload C 5 dX3_isLightEnough_91 rfl ?_
      refine rx_aload_n C 2 dX3_isLightEnough_93 rfl rfl ?_
      refine rx_getC C (k := 0) (ld_sh hr2_) fc_X4 (by decide) (r2_ + 1) rfl lk_X3_32 dX3_isLightEnough_94 ?_
      refine rx_getI C (k := 4) (ro_sh (ld_1 hr2_)) fc_X8 (by decide) rfl lk_X3_38 dX3_isLightEnough_97 ?_
      refine rx_icmp_ne C (tgt := 107) dX3_isLightEnough_100 (by decide) (fun _ => ?_) (fun _ => ?_)
      · refine rx_iconst C dX3_isLightEnough_103 ic_1 ?_
        refine rx_goto C (tgt := 108) dX3_isLightEnough_104 (by decide) ?_
        exact RX.loc (w_X3_isLightEnough_108 C r0 hr0 (f_X3_isLightEnough_70 r0 n) hk_70 r2_ hr2_ y4 y6 x9 w23 (1 : Int32) σ) [1, 2, 3, 4, 5, 0] rfl
      · refine rx_iconst C dX3_isLightEnough_107 ic_0 ?_
        exact RX.loc (w_X3_isLightEnough_108 C r0 hr0 (f_X3_isLightEnough_70 r0 n) hk_70 r2_ hr2_ y4 y6 x9 w23 (0 : Int32) σ) [1, 2, 3, 4, 5, 0] rfl
set_option maxRecDepth 100000 in
set_option maxHeartbeats 4000000 in
theorem w_X3_isLightEnough_35 {α : Nat → Nat} {D : va_G} {cA : Nat → ClassId} {z : Cz} (C : CX shX α D cA z RX3 cX3_isLightEnough 15 (some .boolean) 3 65) (r0 : Nat) (hr0 : arI r0) : ∀ (n : Nat) (r2_ : Nat) (hr2_ : isLand r2_) (x3 : Int32) (y4 : Int64) (y6 : Int64) (x8 : Int32) (x9 : Int32) (σ : St), RX emI shX α D cA z 15 σ 35 [(0, .ref (α r0)), (2, .ref (α r2_)), (3, .int x3), (4, .long y4), (6, .long y6), (8, .int x8), (9, .int x9)] [] (f_X3_isLightEnough_35 r0 n r2_ x3 y4 y6 x8 x9 σ) := by
  intro n
  induction n with
  | zero => intros; exact rx_none
  | succ n hk_35 =>
    intro r2_ hr2_ x3 y4 y6 x8 x9 σ
    rw [f_X3_isLightEnough_35.eq_2]
    refine rx_iload C 6 dX3_isLightEnough_35 rfl ?_
    refine rx_iload C 5 dX3_isLightEnough_37 rfl ?_
    refine rx_icmp_ge C (tgt := 67) dX3_isLightEnough_39 (by decide) (fun _ => ?_) (fun _ => ?_)
    · refine rx_iconst C dX3_isLightEnough_67 ic_0 ?_
      refine rx_istore C [(9, .int (0 : Int32)), (0, .ref (α r0)), (2, .ref (α r2_)), (3, .int x3), (4, .long y4), (6, .long y6), (8, .int x8)] dX3_isLightEnough_68 (by decide) rfl ?_
      exact RX.loc (w_X3_isLightEnough_70 C r0 hr0 FU r2_ hr2_ y4 y6 (0 : Int32) σ) [1, 2, 4, 5, 0] rfl
    · refine rx_lload C 3 dX3_isLightEnough_42 rfl ?_
      refine rx_aload_n C 0 dX3_isLightEnough_44 rfl rfl ?_
      refine rx_iload_n C 2 dX3_isLightEnough_45 rfl rfl ?_
      refine rx_iconst C dX3_isLightEnough_46 ic_4 ?_
      refine rx_iadd C dX3_isLightEnough_47 ?_
      refine rx_iconst C dX3_isLightEnough_48 ic_2 ?_
      refine rx_iload C 6 dX3_isLightEnough_49 rfl ?_
      refine rx_imul C dX3_isLightEnough_51 ?_
      refine rx_iadd C dX3_isLightEnough_52 ?_
      refine rx_iconst C dX3_isLightEnough_53 ic_2 ?_
      refine rx_callSi C [.ref (α r0), .int ((x3 + (4 : Int32)) + ((2 : Int32) * x9)), .int (2 : Int32)] [.long y4] (m_X3_number z.l C.inj r0 hr0 ((x3 + (4 : Int32)) + ((2 : Int32) * x9)) (2 : Int32) σ) ms_X3_number lk_X3_75 rfl rfl (Nat.le_of_ble_eq_true rfl) ⟨Nat.le_of_ble_eq_true rfl, Nat.le_of_ble_eq_true rfl⟩ dX3_isLightEnough_54 (fun q33 => ?_)
      refine rx_i2l C dX3_isLightEnough_57 ?_
      refine rx_ladd C dX3_isLightEnough_58 ?_
      refine rx_ltl (fun w34 => ?_)
      refine rx_lstore C [(4, .long w34), (0, .ref (α r0)), (2, .ref (α r2_)), (3, .int x3), (6, .long y6), (8, .int x8), (9, .int x9)] dX3_isLightEnough_59 (by decide) rfl ?_
      refine rx_iinc C (k0 := 6) (v := x9 + (1 : Int32)) [(9, .int (x9 + (1 : Int32))), (4, .long w34), (0, .ref (α r0)), (2, .ref (α r2_)), (3, .int x3), (6, .long y6), (8, .int x8)] dX3_isLightEnough_61 rfl (congrArg _ ic_1) (by decide) rfl ?_
      refine rx_goto C (tgt := 35) dX3_isLightEnough_64 (by decide) ?_
      exact RX.loc (hk_35 r2_ hr2_ x3 w34 y6 x8 (x9 + (1 : Int32)) q33.2) [2, 3, 4, 1, 5, 6, 0] rfl
set_option maxRecDepth 100000 in
set_option maxHeartbeats 4000000 in
theorem w_X3_isLightEnough_e {α : Nat → Nat} {D : va_G} {cA : Nat → ClassId} {z : Cz} (C : CX shX α D cA z RX3 cX3_isLightEnough 15 (some .boolean) 3 65) (r0 : Nat) (hr0 : arI r0) (σ : St) : RX emI shX α D cA z 15 σ 0 [(0, .ref (α r0)), (1, .ref (α 6))] [] (f_X3_isLightEnough r0 σ) := by
  unfold f_X3_isLightEnough
  refine rx_aload_n C 1 dX3_isLightEnough_0 rfl rfl ?_
  refine rx_getR C (k := 0) sx_6 fc_X2 (by decide) rfl lk_X3_28 dX3_isLightEnough_1 ?_
  refine rx_ltr (fun g18 => ?_)
  refine rx_if (fun hg18 => ?_) (fun _ => rx_none)
  refine rx_astore_n C [(2, .ref (α g18)), (0, .ref (α r0)), (1, .ref (α 6))] dX3_isLightEnough_4 rfl (by decide) rfl ?_
  refine rx_aload_n C 2 dX3_isLightEnough_5 rfl rfl ?_
  refine rx_callSi C [.ref (α 6)] [] (m_X3_riverStart z.l C.inj σ) ms_X3_riverStart lk_X3_72 rfl rfl (Nat.le_of_ble_eq_true rfl) ⟨Nat.le_of_ble_eq_true rfl, Nat.le_of_ble_eq_true rfl⟩ dX3_isLightEnough_6 (fun q19 => ?_)
  refine rx_istore_n C [(3, .int q19.1), (2, .ref (α g18)), (0, .ref (α r0)), (1, .ref (α 6))] dX3_isLightEnough_9 rfl (by decide) rfl ?_
  refine rx_aload_n C 2 dX3_isLightEnough_10 rfl rfl ?_
  refine rx_iload_n C 0 dX3_isLightEnough_11 rfl rfl ?_
  refine rx_iconst C dX3_isLightEnough_12 ic_3 ?_
  refine rx_callSi C [.ref (α r0), .int q19.1, .int (3 : Int32)] [] (m_X3_number z.l C.inj r0 hr0 q19.1 (3 : Int32) q19.2) ms_X3_number lk_X3_75 rfl rfl (Nat.le_of_ble_eq_true rfl) ⟨Nat.le_of_ble_eq_true rfl, Nat.le_of_ble_eq_true rfl⟩ dX3_isLightEnough_13 (fun q20 => ?_)
  refine rx_i2l C dX3_isLightEnough_16 ?_
  refine rx_ltl (fun w21 => ?_)
  refine rx_lstore C [(4, .long w21), (3, .int q19.1), (2, .ref (α g18)), (0, .ref (α r0)), (1, .ref (α 6))] dX3_isLightEnough_17 (by decide) rfl ?_
  refine rx_lconst C dX3_isLightEnough_19 lc_0 ?_
  refine rx_lstore C [(6, .long (0 : Int64)), (4, .long w21), (3, .int q19.1), (2, .ref (α g18)), (0, .ref (α r0)), (1, .ref (α 6))] dX3_isLightEnough_20 (by decide) rfl ?_
  refine rx_aload_n C 4 dX3_isLightEnough_22 rfl rfl ?_
  refine rx_iload_n C 2 dX3_isLightEnough_23 rfl rfl ?_
  refine rx_iconst C dX3_isLightEnough_24 ic_3 ?_
  refine rx_iadd C dX3_isLightEnough_25 ?_
  refine rx_iconst C dX3_isLightEnough_26 ic_1 ?_
  refine rx_callSi C [.ref (α r0), .int (q19.1 + (3 : Int32)), .int (1 : Int32)] [] (m_X3_number z.l C.inj r0 hr0 (q19.1 + (3 : Int32)) (1 : Int32) q20.2) ms_X3_number lk_X3_75 rfl rfl (Nat.le_of_ble_eq_true rfl) ⟨Nat.le_of_ble_eq_true rfl, Nat.le_of_ble_eq_true rfl⟩ dX3_isLightEnough_27 (fun q22 => ?_)
  refine rx_istore C [(8, .int q22.1), (6, .long (0 : Int64)), (4, .long w21), (3, .int q19.1), (2, .ref (α g18)), (0, .ref (α r0)), (1, .ref (α 6))] dX3_isLightEnough_30 (by decide) rfl ?_
  refine rx_iconst C dX3_isLightEnough_32 ic_0 ?_
  refine rx_istore C [(9, .int (0 : Int32)), (8, .int q22.1), (6, .long (0 : Int64)), (4, .long w21), (3, .int q19.1), (2, .ref (α g18)), (0, .ref (α r0)), (1, .ref (α 6))] dX3_isLightEnough_33 (by decide) rfl ?_
  exact RX.loc (w_X3_isLightEnough_35 C r0 hr0 FU g18 (landB_is hg18) q19.1 w21 (0 : Int64) q22.1 (0 : Int32) q22.2) [6, 5, 4, 3, 2, 1, 0] rfl
theorem m_X3_isLightEnough (l : Launch) {α : Nat → Nat} {D : va_G} {cA : Nat → ClassId} (hin : inj shX.length α) (r0 : Nat) (hr0 : arI r0) (σ : St) : CT shX l yX3_isLightEnough cX3_isLightEnough 15 (some .boolean) 3 65 emI α D cA [.ref (α r0), .ref (α 6)] σ (f_X3_isLightEnough r0 σ) := ct_of rfl (Nat.le_of_ble_eq_true rfl) hin (fun z _ C => w_X3_isLightEnough_e C r0 hr0 σ)
set_option maxRecDepth 100000 in
set_option maxHeartbeats 4000000 in
theorem w_X3_fits_18 {α : Nat → Nat} {D : va_G} {cA : Nat → ClassId} {z : Cz} (C : CX shX α D cA z RX3 cX3_fits 5 (some .boolean) 4 99) (r0 : Nat) (hr0 : arI r0) (σ : St) : RX emI shX α D cA z 5 σ 18 [] [] (f_X3_fits_18 r0 σ) := by
  unfold f_X3_fits_18
  refine rx_iconst C dX3_fits_18 ic_0 ?_
  exact rx_zretC C dX3_fits_19 rfl
set_option maxRecDepth 100000 in
set_option maxHeartbeats 4000000 in
theorem w_X3_fits_112 {α : Nat → Nat} {D : va_G} {cA : Nat → ClassId} {z : Cz} (C : CX shX α D cA z RX3 cX3_fits 5 (some .boolean) 4 99) (r0 : Nat) (hr0 : arI r0) (s0 : Int32) (σ : St) : RX emI shX α D cA z 5 σ 112 [] [.int s0] (f_X3_fits_112 r0 s0 σ) := by
  unfold f_X3_fits_112
  exact rx_zret C dX3_fits_112
set_option maxRecDepth 100000 in
set_option maxHeartbeats 4000000 in
theorem w_X3_fits_111 {α : Nat → Nat} {D : va_G} {cA : Nat → ClassId} {z : Cz} (C : CX shX α D cA z RX3 cX3_fits 5 (some .boolean) 4 99) (r0 : Nat) (hr0 : arI r0) (σ : St) : RX emI shX α D cA z 5 σ 111 [] [] (f_X3_fits_111 r0 σ) := by
  unfold f_X3_fits_111
  refine rx_iconst C dX3_fits_111 ic_0 ?_
  exact RX.loc (w_X3_fits_112 C r0 hr0 (0 : Int32) σ) [] rfl
set_option maxRecDepth 100000 in
set_option maxHeartbeats 4000000 in
theorem w_X3_fits_e {α : Nat → Nat} {D : va_G} {cA : Nat → ClassId} {z : Cz} (C : CX shX α D cA z RX3 cX3_fits 5 (some .boolean) 4 99) (r0 : Nat) (hr0 : arI r0) (x1 : Int32) (σ : St) : RX emI shX α D cA z 5 σ 0 [(0, .ref (α r0)), (1, .int x1), (2, .ref (α 6))] [] (f_X3_fits r0 x1 σ) := by
  unfold f_X3_fits
  refine rx_aload_n C 2 dX3_fits_0 rfl rfl ?_
  refine rx_callSi C [.ref (α 6)] [] (m_X3_riverStart z.l C.inj σ) ms_X3_riverStart lk_X3_72 rfl rfl (Nat.le_of_ble_eq_true rfl) ⟨Nat.le_of_ble_eq_true rfl, Nat.le_of_ble_eq_true rfl⟩ dX3_fits_1 (fun q9 => ?_)
  refine rx_istore_n C [(3, .int q9.1), (0, .ref (α r0)), (1, .int x1), (2, .ref (α 6))] dX3_fits_4 rfl (by decide) rfl ?_
  refine rx_iload_n C 2 dX3_fits_5 rfl rfl ?_
  refine rx_iload_n C 0 dX3_fits_6 rfl rfl ?_
  refine rx_iconst C dX3_fits_7 ic_5 ?_
  refine rx_iadd C dX3_fits_8 ?_
  refine rx_icmp_lt C (tgt := 18) dX3_fits_9 (by decide) (fun _ => ?_) (fun _ => ?_)
  · exact RX.loc (w_X3_fits_18 C r0 hr0 q9.2) [] rfl
  · refine rx_iload_n C 2 dX3_fits_12 rfl rfl ?_
    refine rx_aload_n C 1 dX3_fits_13 rfl rfl ?_
    refine rx_alen C (n := (lnX r0)) hr0 rfl dX3_fits_14 ?_
    refine rx_icmp_le C (tgt := 20) dX3_fits_15 (by decide) (fun _ => ?_) (fun _ => ?_)
    · refine rx_aload_n C 1 dX3_fits_20 rfl rfl ?_
      refine rx_iload_n C 0 dX3_fits_21 rfl rfl ?_
      refine rx_iconst C dX3_fits_22 ic_3 ?_
      refine rx_iadd C dX3_fits_23 ?_
      refine rx_iconst C dX3_fits_24 ic_1 ?_
      refine rx_callSi C [.ref (α r0), .int (q9.1 + (3 : Int32)), .int (1 : Int32)] [] (m_X3_number z.l C.inj r0 hr0 (q9.1 + (3 : Int32)) (1 : Int32) q9.2) ms_X3_number lk_X3_75 rfl rfl (Nat.le_of_ble_eq_true rfl) ⟨Nat.le_of_ble_eq_true rfl, Nat.le_of_ble_eq_true rfl⟩ dX3_fits_25 (fun q10 => ?_)
      refine rx_istore C [(4, .int q10.1), (3, .int q9.1), (0, .ref (α r0)), (1, .int x1), (2, .ref (α 6))] dX3_fits_28 (by decide) rfl ?_
      refine rx_iload C 0 dX3_fits_30 rfl ?_
      refine rx_bipush C dX3_fits_32 bp_30 ?_
      refine rx_icmp_gt C (tgt := 111) dX3_fits_34 (by decide) (fun _ => ?_) (fun _ => ?_)
      · exact RX.loc (w_X3_fits_111 C r0 hr0 q10.2) [] rfl
      · refine rx_iload_n C 3 dX3_fits_37 rfl rfl ?_
        refine rx_iload_n C 1 dX3_fits_38 rfl rfl ?_
        refine rx_iconst C dX3_fits_39 ic_5 ?_
        refine rx_iadd C dX3_fits_40 ?_
        refine rx_iconst C dX3_fits_41 ic_2 ?_
        refine rx_iload C 0 dX3_fits_42 rfl ?_
        refine rx_imul C dX3_fits_44 ?_
        refine rx_iadd C dX3_fits_45 ?_
        refine rx_icmp_ne C (tgt := 111) dX3_fits_46 (by decide) (fun _ => ?_) (fun _ => ?_)
        · refine rx_aload_n C 2 dX3_fits_49 rfl rfl ?_
          refine rx_iload_n C 3 dX3_fits_50 rfl rfl ?_
          refine rx_iconst C dX3_fits_51 ic_1 ?_
          refine rx_isub C dX3_fits_52 ?_
          refine rx_callSi C [.ref (α r0), .int (x1 - (1 : Int32))] [] (m_X3_seal z.l C.inj r0 hr0 (x1 - (1 : Int32)) q10.2) ms_X3_seal lk_X3_60 rfl rfl (Nat.le_of_ble_eq_true rfl) ⟨Nat.le_of_ble_eq_true rfl, Nat.le_of_ble_eq_true rfl⟩ dX3_fits_53 (fun q11 => ?_)
          refine rx_aload_n C 2 dX3_fits_56 rfl rfl ?_
          refine rx_iload_n C 3 dX3_fits_57 rfl rfl ?_
          refine rx_iconst C dX3_fits_58 ic_1 ?_
          refine rx_isub C dX3_fits_59 ?_
          refine rx_iconst C dX3_fits_60 ic_1 ?_
          refine rx_callSi C [.ref (α r0), .int (x1 - (1 : Int32)), .int (1 : Int32)] [.int q11.1] (m_X3_number z.l C.inj r0 hr0 (x1 - (1 : Int32)) (1 : Int32) q11.2) ms_X3_number lk_X3_75 rfl rfl (Nat.le_of_ble_eq_true rfl) ⟨Nat.le_of_ble_eq_true rfl, Nat.le_of_ble_eq_true rfl⟩ dX3_fits_61 (fun q12 => ?_)
          refine rx_icmp_ne C (tgt := 111) dX3_fits_64 (by decide) (fun _ => ?_) (fun _ => ?_)
          · refine rx_aload_n C 2 dX3_fits_67 rfl rfl ?_
            refine rx_iconst C dX3_fits_68 ic_0 ?_
            refine rx_iconst C dX3_fits_69 ic_2 ?_
            refine rx_callSi C [.ref (α r0), .int (0 : Int32), .int (2 : Int32)] [] (m_X3_number z.l C.inj r0 hr0 (0 : Int32) (2 : Int32) q12.2) ms_X3_number lk_X3_75 rfl rfl (Nat.le_of_ble_eq_true rfl) ⟨Nat.le_of_ble_eq_true rfl, Nat.le_of_ble_eq_true rfl⟩ dX3_fits_70 (fun q13 => ?_)
            refine rx_sipush C dX3_fits_73 sp_999 ?_
            refine rx_icmp_gt C (tgt := 111) dX3_fits_76 (by decide) (fun _ => ?_) (fun _ => ?_)
            · exact RX.loc (w_X3_fits_111 C r0 hr0 q13.2) [] rfl
            · refine rx_aload_n C 2 dX3_fits_79 rfl rfl ?_
              refine rx_aload_n C 4 dX3_fits_80 rfl rfl ?_
              refine rx_callSi C [.ref (α r0), .ref (α 6)] [] (m_X3_hasKnownTitles z.l C.inj r0 hr0 q13.2) ms_X3_hasKnownTitles lk_X3_79 rfl rfl (Nat.le_of_ble_eq_true rfl) ⟨Nat.le_of_ble_eq_true rfl, Nat.le_of_ble_eq_true rfl⟩ dX3_fits_81 (fun q14 => ?_)
              refine rx_if_eq C (tgt := 111) dX3_fits_84 (by decide) (fun _ => ?_) (fun _ => ?_)
              · exact RX.loc (w_X3_fits_111 C r0 hr0 q14.2) [] rfl
              · refine rx_aload_n C 2 dX3_fits_87 rfl rfl ?_
                refine rx_iload_n C 1 dX3_fits_88 rfl rfl ?_
                refine rx_iconst C dX3_fits_89 ic_4 ?_
                refine rx_iadd C dX3_fits_90 ?_
                refine rx_iload C 0 dX3_fits_91 rfl ?_
                refine rx_callSi C [.ref (α r0), .int (q9.1 + (4 : Int32)), .int q10.1] [] (m_X3_hasRightBullets z.l C.inj r0 hr0 (q9.1 + (4 : Int32)) q10.1 q14.2) ms_X3_hasRightBullets lk_X3_83 rfl rfl (Nat.le_of_ble_eq_true rfl) ⟨Nat.le_of_ble_eq_true rfl, Nat.le_of_ble_eq_true rfl⟩ dX3_fits_93 (fun q15 => ?_)
                refine rx_if_eq C (tgt := 111) dX3_fits_96 (by decide) (fun _ => ?_) (fun _ => ?_)
                · exact RX.loc (w_X3_fits_111 C r0 hr0 q15.2) [] rfl
                · refine rx_aload_n C 2 dX3_fits_99 rfl rfl ?_
                  refine rx_aload_n C 4 dX3_fits_100 rfl rfl ?_
                  refine rx_callSi C [.ref (α r0), .ref (α 6)] [] (m_X3_isLightEnough z.l C.inj r0 hr0 q15.2) ms_X3_isLightEnough lk_X3_87 rfl rfl (Nat.le_of_ble_eq_true rfl) ⟨Nat.le_of_ble_eq_true rfl, Nat.le_of_ble_eq_true rfl⟩ dX3_fits_101 (fun q16 => ?_)
                  refine rx_if_eq C (tgt := 111) dX3_fits_104 (by decide) (fun _ => ?_) (fun _ => ?_)
                  · exact RX.loc (w_X3_fits_111 C r0 hr0 q16.2) [] rfl
                  · refine rx_iconst C dX3_fits_107 ic_1 ?_
                    refine rx_goto C (tgt := 112) dX3_fits_108 (by decide) ?_
                    exact RX.loc (w_X3_fits_112 C r0 hr0 (1 : Int32) q16.2) [] rfl
          · exact RX.loc (w_X3_fits_111 C r0 hr0 q12.2) [] rfl
        · exact RX.loc (w_X3_fits_111 C r0 hr0 q10.2) [] rfl
    · exact RX.loc (w_X3_fits_18 C r0 hr0 q9.2) [] rfl
theorem m_X3_fits (l : Launch) {α : Nat → Nat} {D : va_G} {cA : Nat → ClassId} (hin : inj shX.length α) (r0 : Nat) (hr0 : arI r0) (x1 : Int32) (σ : St) : CT shX l yX3_fits cX3_fits 5 (some .boolean) 4 99 emI α D cA [.ref (α r0), .int x1, .ref (α 6)] σ (f_X3_fits r0 x1 σ) := ct_of rfl (Nat.le_of_ble_eq_true rfl) hin (fun z _ C => w_X3_fits_e C r0 hr0 x1 σ)
set_option maxRecDepth 100000 in
set_option maxHeartbeats 4000000 in
theorem w_X3_restoreLetters_3 {α : Nat → Nat} {D : va_G} {cA : Nat → ClassId} {z : Cz} (C : CX shX α D cA z RX3 cX3_restoreLetters 6 none 1 24) (r0 : Nat) (hr0 : arI r0) : ∀ (n : Nat) (x1 : Int32) (x3 : Int32) (x4 : Int32) (σ : St), RX emV shX α D cA z 6 σ 3 [(0, .ref (α r0)), (1, .int x1), (2, .ref (α 6)), (3, .int x3), (4, .int x4)] [] (f_X3_restoreLetters_3 r0 n x1 x3 x4 σ) := by
  intro n
  induction n with
  | zero => intros; exact rx_none
  | succ n hk_3 =>
    intro x1 x3 x4 σ
    rw [f_X3_restoreLetters_3.eq_2]
    refine rx_iload C 4 dX3_restoreLetters_3 rfl ?_
    refine rx_bipush C dX3_restoreLetters_5 bp_26 ?_
    refine rx_icmp_ge C (tgt := 46) dX3_restoreLetters_7 (by decide) (fun _ => ?_) (fun _ => ?_)
    · exact rx_vret C dX3_restoreLetters_46
    · refine rx_aload_n C 0 dX3_restoreLetters_10 rfl rfl ?_
      refine rx_iload_n C 1 dX3_restoreLetters_11 rfl rfl ?_
      refine rx_iconst C dX3_restoreLetters_12 ic_2 ?_
      refine rx_iload C 4 dX3_restoreLetters_13 rfl ?_
      refine rx_imul C dX3_restoreLetters_15 ?_
      refine rx_iadd C dX3_restoreLetters_16 ?_
      refine rx_iconst C dX3_restoreLetters_17 ic_2 ?_
      refine rx_callSi C [.ref (α r0), .int (x1 + ((2 : Int32) * x4)), .int (2 : Int32)] [] (m_X3_number z.l C.inj r0 hr0 (x1 + ((2 : Int32) * x4)) (2 : Int32) σ) ms_X3_number lk_X3_75 rfl rfl (Nat.le_of_ble_eq_true rfl) ⟨Nat.le_of_ble_eq_true rfl, Nat.le_of_ble_eq_true rfl⟩ dX3_restoreLetters_18 (fun q4 => ?_)
      refine rx_istore C [(5, .int q4.1), (0, .ref (α r0)), (1, .int x1), (2, .ref (α 6)), (3, .int x3), (4, .int x4)] dX3_restoreLetters_21 (by decide) rfl ?_
      refine rx_aload_n C 3 dX3_restoreLetters_23 rfl rfl ?_
      refine rx_iload_n C 4 dX3_restoreLetters_24 rfl rfl ?_
      refine rx_iload C 5 dX3_restoreLetters_25 rfl ?_
      refine rx_iload C 0 dX3_restoreLetters_27 rfl ?_
      refine rx_aload_n C 3 dX3_restoreLetters_29 rfl rfl ?_
      refine rx_iload_n C 4 dX3_restoreLetters_30 rfl rfl ?_
      refine rx_iload C 5 dX3_restoreLetters_31 rfl ?_
      refine rx_callVi C [.int x3, .int x4] [.int q4.1, .int x4, .int x3, .ref (α 6)] (m_X2_count z.l C.inj x3 x4 q4.2) mv_X2_count lk_X3_64 sx_6 rfl rfl rfl (Nat.le_of_ble_eq_true rfl) ⟨Nat.le_of_ble_eq_true rfl, Nat.le_of_ble_eq_true rfl⟩ dX3_restoreLetters_33 (fun q5 => ?_)
      refine rx_isub C dX3_restoreLetters_36 ?_
      refine rx_callVv C [.int x3, .int x4, .int (q4.1 - q5.1)] [] (m_X2_change z.l C.inj x3 x4 (q4.1 - q5.1) q5.2) mv_X2_change lk_X3_131 sx_6 rfl rfl rfl (Nat.le_of_ble_eq_true rfl) ⟨Nat.le_of_ble_eq_true rfl, Nat.le_of_ble_eq_true rfl⟩ dX3_restoreLetters_37 (fun q6 => ?_)
      refine rx_iinc C (k0 := 5) (v := x4 + (1 : Int32)) [(4, .int (x4 + (1 : Int32))), (5, .int q4.1), (0, .ref (α r0)), (1, .int x1), (2, .ref (α 6)), (3, .int x3)] dX3_restoreLetters_40 rfl (congrArg _ ic_1) (by decide) rfl ?_
      refine rx_goto C (tgt := 3) dX3_restoreLetters_43 (by decide) ?_
      exact RX.loc (hk_3 x1 x3 (x4 + (1 : Int32)) q6.2) [2, 3, 4, 5, 0] rfl
set_option maxRecDepth 100000 in
set_option maxHeartbeats 4000000 in
theorem w_X3_restoreLetters_e {α : Nat → Nat} {D : va_G} {cA : Nat → ClassId} {z : Cz} (C : CX shX α D cA z RX3 cX3_restoreLetters 6 none 1 24) (r0 : Nat) (hr0 : arI r0) (x1 : Int32) (x3 : Int32) (σ : St) : RX emV shX α D cA z 6 σ 0 [(0, .ref (α r0)), (1, .int x1), (2, .ref (α 6)), (3, .int x3)] [] (f_X3_restoreLetters r0 x1 x3 σ) := by
  unfold f_X3_restoreLetters
  refine rx_iconst C dX3_restoreLetters_0 ic_0 ?_
  refine rx_istore C [(4, .int (0 : Int32)), (0, .ref (α r0)), (1, .int x1), (2, .ref (α 6)), (3, .int x3)] dX3_restoreLetters_1 (by decide) rfl ?_
  exact RX.loc (w_X3_restoreLetters_3 C r0 hr0 FU x1 x3 (0 : Int32) σ) [1, 2, 3, 4, 0] rfl
theorem m_X3_restoreLetters (l : Launch) {α : Nat → Nat} {D : va_G} {cA : Nat → ClassId} (hin : inj shX.length α) (r0 : Nat) (hr0 : arI r0) (x1 : Int32) (x3 : Int32) (σ : St) : CT shX l yX3_restoreLetters cX3_restoreLetters 6 none 1 24 emV α D cA [.ref (α r0), .int x1, .ref (α 6), .int x3] σ (f_X3_restoreLetters r0 x1 x3 σ) := ct_of rfl (Nat.le_of_ble_eq_true rfl) hin (fun z _ C => w_X3_restoreLetters_e C r0 hr0 x1 x3 σ)
set_option maxRecDepth 100000 in
set_option maxHeartbeats 4000000 in
theorem w_X3_restore_111 {α : Nat → Nat} {D : va_G} {cA : Nat → ClassId} {z : Cz} (C : CX shX α D cA z RX3 cX3_restore 4 none 2 49) (r0 : Nat) (hr0 : arI r0) : ∀ (n : Nat) (x2 : Int32) (x3 : Int32) (σ : St), RX emV shX α D cA z 4 σ 111 [(0, .ref (α r0)), (1, .ref (α 6)), (2, .int x2), (3, .int x3)] [] (f_X3_restore_111 r0 n x2 x3 σ) := by
  intro n
  induction n with
  | zero => intros; exact rx_none
  | succ n hk_111 =>
    intro x2 x3 σ
    rw [f_X3_restore_111.eq_2]
    refine rx_iload_n C 3 dX3_restore_111 rfl rfl ?_
    refine rx_aload_n C 1 dX3_restore_112 rfl rfl ?_
    refine rx_getI C (k := 3) sx_6 fc_X2 (by decide) rfl lk_X3_54 dX3_restore_113 ?_
    refine rx_icmp_ge C (tgt := 143) dX3_restore_116 (by decide) (fun _ => ?_) (fun _ => ?_)
    · refine rx_aload_n C 1 dX3_restore_143 rfl rfl ?_
      refine rx_callVv C [] [] (m_X2_bearAnew z.l C.inj σ) mv_X2_bearAnew lk_X3_128 sx_6 rfl rfl rfl (Nat.le_of_ble_eq_true rfl) ⟨Nat.le_of_ble_eq_true rfl, Nat.le_of_ble_eq_true rfl⟩ dX3_restore_144 (fun q30 => ?_)
      exact rx_vret C dX3_restore_147
    · refine rx_aload_n C 1 dX3_restore_119 rfl rfl ?_
      refine rx_getC C (k := 6) sx_6 fc_X2 (by decide) 9 rfl lk_X3_57 dX3_restore_120 ?_
      refine rx_iload_n C 3 dX3_restore_123 rfl rfl ?_
      refine rx_aload_n C 0 dX3_restore_124 rfl rfl ?_
      refine rx_iload_n C 2 dX3_restore_125 rfl rfl ?_
      refine rx_iconst C dX3_restore_126 ic_4 ?_
      refine rx_iadd C dX3_restore_127 ?_
      refine rx_iconst C dX3_restore_128 ic_2 ?_
      refine rx_iload_n C 3 dX3_restore_129 rfl rfl ?_
      refine rx_imul C dX3_restore_130 ?_
      refine rx_iadd C dX3_restore_131 ?_
      refine rx_iconst C dX3_restore_132 ic_2 ?_
      refine rx_callSi C [.ref (α r0), .int ((x2 + (4 : Int32)) + ((2 : Int32) * x3)), .int (2 : Int32)] [.int x3, .ref (α 9)] (m_X3_number z.l C.inj r0 hr0 ((x2 + (4 : Int32)) + ((2 : Int32) * x3)) (2 : Int32) σ) ms_X3_number lk_X3_75 rfl rfl (Nat.le_of_ble_eq_true rfl) ⟨Nat.le_of_ble_eq_true rfl, Nat.le_of_ble_eq_true rfl⟩ dX3_restore_133 (fun q31 => ?_)
      refine rx_iast C (n := 30) sx_9 dX3_restore_136 (fun _ => ?_)
      refine rx_lts (fun σ32 => ?_)
      refine rx_iinc C (k0 := 3) (v := x3 + (1 : Int32)) [(3, .int (x3 + (1 : Int32))), (0, .ref (α r0)), (1, .ref (α 6)), (2, .int x2)] dX3_restore_137 rfl (congrArg _ ic_1) (by decide) rfl ?_
      refine rx_goto C (tgt := 111) dX3_restore_140 (by decide) ?_
      exact RX.loc (hk_111 x2 (x3 + (1 : Int32)) σ32) [1, 2, 3, 0] rfl
set_option maxRecDepth 100000 in
set_option maxHeartbeats 4000000 in
theorem w_X3_restore_66 {α : Nat → Nat} {D : va_G} {cA : Nat → ClassId} {z : Cz} (C : CX shX α D cA z RX3 cX3_restore 4 none 2 49) (r0 : Nat) (hr0 : arI r0) (σ : St) : RX emV shX α D cA z 4 σ 66 [(0, .ref (α r0)), (1, .ref (α 6))] [] (f_X3_restore_66 r0 σ) := by
  unfold f_X3_restore_66
  refine rx_aload_n C 0 dX3_restore_66 rfl rfl ?_
  refine rx_aload_n C 1 dX3_restore_67 rfl rfl ?_
  refine rx_callSi C [.ref (α 6)] [.ref (α r0)] (m_X3_heapStart z.l C.inj σ) ms_X3_heapStart lk_X3_68 rfl rfl (Nat.le_of_ble_eq_true rfl) ⟨Nat.le_of_ble_eq_true rfl, Nat.le_of_ble_eq_true rfl⟩ dX3_restore_68 (fun q22 => ?_)
  refine rx_aload_n C 1 dX3_restore_71 rfl rfl ?_
  refine rx_bipush C dX3_restore_72 bp_8 ?_
  refine rx_callSv C [.ref (α r0), .int q22.1, .ref (α 6), .int (8 : Int32)] [] (m_X3_restoreLetters z.l C.inj r0 hr0 q22.1 (8 : Int32) q22.2) ms_X3_restoreLetters lk_X3_119 rfl rfl (Nat.le_of_ble_eq_true rfl) ⟨Nat.le_of_ble_eq_true rfl, Nat.le_of_ble_eq_true rfl⟩ dX3_restore_74 (fun q23 => ?_)
  refine rx_aload_n C 1 dX3_restore_77 rfl rfl ?_
  refine rx_callSi C [.ref (α 6)] [] (m_X3_riverStart z.l C.inj q23.2) ms_X3_riverStart lk_X3_72 rfl rfl (Nat.le_of_ble_eq_true rfl) ⟨Nat.le_of_ble_eq_true rfl, Nat.le_of_ble_eq_true rfl⟩ dX3_restore_78 (fun q24 => ?_)
  refine rx_istore_n C [(2, .int q24.1), (0, .ref (α r0)), (1, .ref (α 6))] dX3_restore_81 rfl (by decide) rfl ?_
  refine rx_aload_n C 2 dX3_restore_82 rfl rfl ?_
  refine rx_aload_n C 1 dX3_restore_83 rfl rfl ?_
  refine rx_iload_n C 0 dX3_restore_84 rfl rfl ?_
  refine rx_iconst C dX3_restore_85 ic_3 ?_
  refine rx_callSi C [.ref (α r0), .int q24.1, .int (3 : Int32)] [.ref (α 6)] (m_X3_number z.l C.inj r0 hr0 q24.1 (3 : Int32) q24.2) ms_X3_number lk_X3_75 rfl rfl (Nat.le_of_ble_eq_true rfl) ⟨Nat.le_of_ble_eq_true rfl, Nat.le_of_ble_eq_true rfl⟩ dX3_restore_86 (fun q25 => ?_)
  refine rx_putI C (k := 2) sx_6 fc_X2 (by decide) rfl lk_X3_51 rfl ⟨rfl, rfl⟩ dX3_restore_89 ?_
  refine rx_lts (fun σ26 => ?_)
  refine rx_aload_n C 2 dX3_restore_92 rfl rfl ?_
  refine rx_bipush C dX3_restore_93 bp_30 ?_
  refine rx_aload_n C 1 dX3_restore_95 rfl rfl ?_
  refine rx_iload_n C 0 dX3_restore_96 rfl rfl ?_
  refine rx_iconst C dX3_restore_97 ic_3 ?_
  refine rx_iadd C dX3_restore_98 ?_
  refine rx_iconst C dX3_restore_99 ic_1 ?_
  refine rx_callSi C [.ref (α r0), .int (q24.1 + (3 : Int32)), .int (1 : Int32)] [.int (30 : Int32), .ref (α 6)] (m_X3_number z.l C.inj r0 hr0 (q24.1 + (3 : Int32)) (1 : Int32) σ26) ms_X3_number lk_X3_75 rfl rfl (Nat.le_of_ble_eq_true rfl) ⟨Nat.le_of_ble_eq_true rfl, Nat.le_of_ble_eq_true rfl⟩ dX3_restore_100 (fun q27 => ?_)
  refine rx_callSi C [.int (30 : Int32), .int q27.1] [.ref (α 6)] (m_J9_min_7cf53 z.l C.inj (30 : Int32) q27.1 q27.2) ms_J9_min_7cf53 lk_X3_123 rfl rfl (Nat.le_of_ble_eq_true rfl) ⟨Nat.le_of_ble_eq_true rfl, Nat.le_of_ble_eq_true rfl⟩ dX3_restore_103 (fun q28 => ?_)
  refine rx_putI C (k := 3) sx_6 fc_X2 (by decide) rfl lk_X3_54 rfl ⟨rfl, rfl⟩ dX3_restore_106 ?_
  refine rx_lts (fun σ29 => ?_)
  refine rx_iconst C dX3_restore_109 ic_0 ?_
  refine rx_istore_n C [(3, .int (0 : Int32)), (2, .int q24.1), (0, .ref (α r0)), (1, .ref (α 6))] dX3_restore_110 rfl (by decide) rfl ?_
  exact RX.loc (w_X3_restore_111 C r0 hr0 FU q24.1 (0 : Int32) σ29) [2, 3, 1, 0] rfl
set_option maxRecDepth 100000 in
set_option maxHeartbeats 4000000 in
theorem w_X3_restore_12 {α : Nat → Nat} {D : va_G} {cA : Nat → ClassId} {z : Cz} (C : CX shX α D cA z RX3 cX3_restore 4 none 2 49) (r0 : Nat) (hr0 : arI r0) : ∀ (n : Nat) (x2 : Int32) (σ : St), RX emV shX α D cA z 4 σ 12 [(0, .ref (α r0)), (1, .ref (α 6)), (2, .int x2)] [] (f_X3_restore_12 r0 n x2 σ) := by
  intro n
  induction n with
  | zero => intros; exact rx_none
  | succ n hk_12 =>
    intro x2 σ
    rw [f_X3_restore_12.eq_2]
    refine rx_iload_n C 2 dX3_restore_12 rfl rfl ?_
    refine rx_aload_n C 1 dX3_restore_13 rfl rfl ?_
    refine rx_getR C (k := 0) sx_6 fc_X2 (by decide) rfl lk_X3_28 dX3_restore_14 ?_
    refine rx_ltr (fun g21 => ?_)
    refine rx_if (fun hg21 => ?_) (fun _ => rx_none)
    refine rx_getC C (k := 0) (ld_sh (landB_is hg21)) fc_X4 (by decide) (g21 + 1) rfl lk_X3_32 dX3_restore_17 ?_
    refine rx_getI C (k := 4) (ro_sh (ld_1 (landB_is hg21))) fc_X8 (by decide) rfl lk_X3_38 dX3_restore_20 ?_
    refine rx_icmp_ge C (tgt := 66) dX3_restore_23 (by decide) (fun _ => ?_) (fun _ => ?_)
    · exact RX.loc (w_X3_restore_66 C r0 hr0 σ) [0, 1] rfl
    · refine rx_iload_n C 2 dX3_restore_26 rfl rfl ?_
      refine rx_bipush C dX3_restore_27 bp_8 ?_
      refine rx_icmp_ge C (tgt := 66) dX3_restore_29 (by decide) (fun _ => ?_) (fun _ => ?_)
      · exact RX.loc (w_X3_restore_66 C r0 hr0 σ) [0, 1] rfl
      · refine rx_iconst C dX3_restore_32 ic_2 ?_
        refine rx_iload_n C 2 dX3_restore_33 rfl rfl ?_
        refine rx_bipush C dX3_restore_34 bp_54 ?_
        refine rx_imul C dX3_restore_36 ?_
        refine rx_iadd C dX3_restore_37 ?_
        refine rx_lti (fun w33 => ?_)
        refine rx_istore_n C [(3, .int w33), (0, .ref (α r0)), (1, .ref (α 6)), (2, .int x2)] dX3_restore_38 rfl (by decide) rfl ?_
        refine rx_aload_n C 2 dX3_restore_39 rfl rfl ?_
        refine rx_getC C (k := 4) sx_6 fc_X2 (by decide) 7 rfl lk_X3_117 dX3_restore_40 ?_
        refine rx_iload_n C 3 dX3_restore_43 rfl rfl ?_
        refine rx_aload_n C 1 dX3_restore_44 rfl rfl ?_
        refine rx_iload_n C 0 dX3_restore_45 rfl rfl ?_
        refine rx_iconst C dX3_restore_46 ic_2 ?_
        refine rx_callSi C [.ref (α r0), .int w33, .int (2 : Int32)] [.int x2, .ref (α 7)] (m_X3_number z.l C.inj r0 hr0 w33 (2 : Int32) σ) ms_X3_number lk_X3_75 rfl rfl (Nat.le_of_ble_eq_true rfl) ⟨Nat.le_of_ble_eq_true rfl, Nat.le_of_ble_eq_true rfl⟩ dX3_restore_47 (fun q34 => ?_)
        refine rx_iast C (n := 8) sx_7 dX3_restore_50 (fun _ => ?_)
        refine rx_lts (fun σ35 => ?_)
        refine rx_aload_n C 1 dX3_restore_51 rfl rfl ?_
        refine rx_iload_n C 0 dX3_restore_52 rfl rfl ?_
        refine rx_iconst C dX3_restore_53 ic_2 ?_
        refine rx_iadd C dX3_restore_54 ?_
        refine rx_aload_n C 2 dX3_restore_55 rfl rfl ?_
        refine rx_iload_n C 3 dX3_restore_56 rfl rfl ?_
        refine rx_callSv C [.ref (α r0), .int (w33 + (2 : Int32)), .ref (α 6), .int x2] [] (m_X3_restoreLetters z.l C.inj r0 hr0 (w33 + (2 : Int32)) x2 σ35) ms_X3_restoreLetters lk_X3_119 rfl rfl (Nat.le_of_ble_eq_true rfl) ⟨Nat.le_of_ble_eq_true rfl, Nat.le_of_ble_eq_true rfl⟩ dX3_restore_57 (fun q36 => ?_)
        refine rx_iinc C (k0 := 3) (v := x2 + (1 : Int32)) [(2, .int (x2 + (1 : Int32))), (3, .int w33), (0, .ref (α r0)), (1, .ref (α 6))] dX3_restore_60 rfl (congrArg _ ic_1) (by decide) rfl ?_
        refine rx_goto C (tgt := 12) dX3_restore_63 (by decide) ?_
        exact RX.loc (hk_12 (x2 + (1 : Int32)) q36.2) [2, 3, 0] rfl
set_option maxRecDepth 100000 in
set_option maxHeartbeats 4000000 in
theorem w_X3_restore_e {α : Nat → Nat} {D : va_G} {cA : Nat → ClassId} {z : Cz} (C : CX shX α D cA z RX3 cX3_restore 4 none 2 49) (r0 : Nat) (hr0 : arI r0) (σ : St) : RX emV shX α D cA z 4 σ 0 [(0, .ref (α r0)), (1, .ref (α 6))] [] (f_X3_restore r0 σ) := by
  unfold f_X3_restore
  refine rx_aload_n C 1 dX3_restore_0 rfl rfl ?_
  refine rx_aload_n C 0 dX3_restore_1 rfl rfl ?_
  refine rx_iconst C dX3_restore_2 ic_0 ?_
  refine rx_iconst C dX3_restore_3 ic_2 ?_
  refine rx_callSi C [.ref (α r0), .int (0 : Int32), .int (2 : Int32)] [.ref (α 6)] (m_X3_number z.l C.inj r0 hr0 (0 : Int32) (2 : Int32) σ) ms_X3_number lk_X3_75 rfl rfl (Nat.le_of_ble_eq_true rfl) ⟨Nat.le_of_ble_eq_true rfl, Nat.le_of_ble_eq_true rfl⟩ dX3_restore_4 (fun q19 => ?_)
  refine rx_putI C (k := 1) sx_6 fc_X2 (by decide) rfl lk_X3_19 rfl ⟨rfl, rfl⟩ dX3_restore_7 ?_
  refine rx_lts (fun σ20 => ?_)
  refine rx_iconst C dX3_restore_10 ic_0 ?_
  refine rx_istore_n C [(2, .int (0 : Int32)), (0, .ref (α r0)), (1, .ref (α 6))] dX3_restore_11 rfl (by decide) rfl ?_
  exact RX.loc (w_X3_restore_12 C r0 hr0 FU (0 : Int32) σ20) [1, 2, 0] rfl
theorem m_X3_restore (l : Launch) {α : Nat → Nat} {D : va_G} {cA : Nat → ClassId} (hin : inj shX.length α) (r0 : Nat) (hr0 : arI r0) (σ : St) : CT shX l yX3_restore cX3_restore 4 none 2 49 emV α D cA [.ref (α r0), .ref (α 6)] σ (f_X3_restore r0 σ) := ct_of rfl (Nat.le_of_ble_eq_true rfl) hin (fun z _ C => w_X3_restore_e C r0 hr0 σ)
set_option maxRecDepth 100000 in
set_option maxHeartbeats 4000000 in
theorem w_X4_clear_e {α : Nat → Nat} {D : va_G} {cA : Nat → ClassId} {z : Cz} (C : CX shX α D cA z RX4 cX4_clear 1 none 1 23) (r0 : Nat) (hr0 : isLand r0) (σ : St) : RX emV shX α D cA z 1 σ 0 [(0, .ref (α r0))] [] (f_X4_clear r0 σ) := by
  unfold f_X4_clear
  refine rx_aload_n C 0 dX4_clear_0 rfl rfl ?_
  refine rx_getC C (k := 0) (ld_sh hr0) fc_X4 (by decide) (r0 + 1) rfl lk_X4_14 dX4_clear_1 ?_
  refine rx_iconst C dX4_clear_4 ic_0 ?_
  refine rx_putI C (k := 4) (ro_sh (ld_1 hr0)) fc_X8 (by decide) rfl lk_X4_51 rfl ⟨rfl, rfl⟩ dX4_clear_5 ?_
  refine rx_lts (fun σ11 => ?_)
  refine rx_aload_n C 0 dX4_clear_8 rfl rfl ?_
  refine rx_getC C (k := 1) (ld_sh hr0) fc_X4 (by decide) (r0 + 4) rfl lk_X4_20 dX4_clear_9 ?_
  refine rx_iconst C dX4_clear_12 ic_0 ?_
  refine rx_putI C (k := 4) (ro_sh (ld_4 hr0)) fc_X8 (by decide) rfl lk_X4_51 rfl ⟨rfl, rfl⟩ dX4_clear_13 ?_
  refine rx_lts (fun σ12 => ?_)
  refine rx_aload_n C 0 dX4_clear_16 rfl rfl ?_
  refine rx_getC C (k := 2) (ld_sh hr0) fc_X4 (by decide) (r0 + 7) rfl lk_X4_23 dX4_clear_17 ?_
  refine rx_iconst C dX4_clear_20 ic_0 ?_
  refine rx_putI C (k := 4) (ro_sh (ld_7 hr0)) fc_X8 (by decide) rfl lk_X4_51 rfl ⟨rfl, rfl⟩ dX4_clear_21 ?_
  refine rx_lts (fun σ13 => ?_)
  refine rx_aload_n C 0 dX4_clear_24 rfl rfl ?_
  refine rx_getC C (k := 3) (ld_sh hr0) fc_X4 (by decide) (r0 + 10) rfl lk_X4_26 dX4_clear_25 ?_
  refine rx_iconst C dX4_clear_28 ic_0 ?_
  refine rx_putI C (k := 4) (ro_sh (ld_10 hr0)) fc_X8 (by decide) rfl lk_X4_51 rfl ⟨rfl, rfl⟩ dX4_clear_29 ?_
  refine rx_lts (fun σ14 => ?_)
  refine rx_aload_n C 0 dX4_clear_32 rfl rfl ?_
  refine rx_getC C (k := 4) (ld_sh hr0) fc_X4 (by decide) (r0 + 13) rfl lk_X4_29 dX4_clear_33 ?_
  refine rx_iconst C dX4_clear_36 ic_0 ?_
  refine rx_putI C (k := 4) (ro_sh (ld_13 hr0)) fc_X8 (by decide) rfl lk_X4_51 rfl ⟨rfl, rfl⟩ dX4_clear_37 ?_
  refine rx_lts (fun σ15 => ?_)
  refine rx_aload_n C 0 dX4_clear_40 rfl rfl ?_
  refine rx_getC C (k := 5) (ld_sh hr0) fc_X4 (by decide) (r0 + 16) rfl lk_X4_32 dX4_clear_41 ?_
  refine rx_bipush C dX4_clear_44 bp_10 ?_
  refine rx_callSv C [.ref (α (r0 + 16)), .int (10 : Int32)] [] (m_J7_fill_53178 z.l C.inj (r0 + 16) (ld_16 hr0) (10 : Int32) σ15) ms_J7_fill_53178 lk_X4_45 rfl rfl (Nat.le_of_ble_eq_true rfl) ⟨Nat.le_of_ble_eq_true rfl, Nat.le_of_ble_eq_true rfl⟩ dX4_clear_46 (fun q16 => ?_)
  refine rx_aload_n C 0 dX4_clear_49 rfl rfl ?_
  refine rx_getC C (k := 6) (ld_sh hr0) fc_X4 (by decide) (r0 + 17) rfl lk_X4_36 dX4_clear_50 ?_
  refine rx_iconst C dX4_clear_53 ic_0 ?_
  refine rx_callSv C [.ref (α (r0 + 17)), .int (0 : Int32)] [] (m_J7_fill_53178 z.l C.inj (r0 + 17) (ld_17 hr0) (0 : Int32) q16.2) ms_J7_fill_53178 lk_X4_45 rfl rfl (Nat.le_of_ble_eq_true rfl) ⟨Nat.le_of_ble_eq_true rfl, Nat.le_of_ble_eq_true rfl⟩ dX4_clear_54 (fun q17 => ?_)
  refine rx_aload_n C 0 dX4_clear_57 rfl rfl ?_
  refine rx_getC C (k := 7) (ld_sh hr0) fc_X4 (by decide) (r0 + 18) rfl lk_X4_39 dX4_clear_58 ?_
  refine rx_iconst C dX4_clear_61 ic_0 ?_
  refine rx_callSv C [.ref (α (r0 + 18)), .int (0 : Int32)] [] (m_J7_fill_53178 z.l C.inj (r0 + 18) (ld_18 hr0) (0 : Int32) q17.2) ms_J7_fill_53178 lk_X4_45 rfl rfl (Nat.le_of_ble_eq_true rfl) ⟨Nat.le_of_ble_eq_true rfl, Nat.le_of_ble_eq_true rfl⟩ dX4_clear_62 (fun q18 => ?_)
  refine rx_aload_n C 0 dX4_clear_65 rfl rfl ?_
  refine rx_iconst C dX4_clear_66 ic_0 ?_
  refine rx_putI C (k := 9) (ld_sh hr0) fc_X4 (by decide) rfl lk_X4_55 rfl ⟨rfl, rfl⟩ dX4_clear_67 ?_
  refine rx_lts (fun σ19 => ?_)
  refine rx_aload_n C 0 dX4_clear_70 rfl rfl ?_
  refine rx_iconst C dX4_clear_71 ic_0 ?_
  refine rx_putI C (k := 10) (ld_sh hr0) fc_X4 (by decide) rfl lk_X4_58 rfl ⟨rfl, rfl⟩ dX4_clear_72 ?_
  refine rx_lts (fun σ20 => ?_)
  exact rx_vret C dX4_clear_75
theorem m_X4_clear (l : Launch) {α : Nat → Nat} {D : va_G} {cA : Nat → ClassId} (hin : inj shX.length α) (r0 : Nat) (hr0 : isLand r0) (σ : St) : CT shX l yX4_clear cX4_clear 1 none 1 23 emV α D cA [.ref (α r0)] σ (f_X4_clear r0 σ) := ct_of rfl (Nat.le_of_ble_eq_true rfl) hin (fun z _ C => w_X4_clear_e C r0 hr0 σ)
set_option maxRecDepth 100000 in
set_option maxHeartbeats 4000000 in
theorem w_X4_addCode_e {α : Nat → Nat} {D : va_G} {cA : Nat → ClassId} {z : Cz} (C : CX shX α D cA z RX4 cX4_addCode 2 (some .boolean) 0 0) (r0 : Nat) (hr0 : isLand r0) (x1 : Int32) (σ : St) : RX emI shX α D cA z 2 σ 0 [(0, .ref (α r0)), (1, .int x1)] [] (f_X4_addCode r0 x1 σ) := by
  unfold f_X4_addCode
  refine rx_aload_n C 0 dX4_addCode_0 rfl rfl ?_
  refine rx_getI C (k := 9) (ld_sh hr0) fc_X4 (by decide) rfl lk_X4_55 dX4_addCode_1 ?_
  refine rx_sipush C dX4_addCode_4 sp_1600 ?_
  refine rx_icmp_lt C (tgt := 12) dX4_addCode_7 (by decide) (fun _ => ?_) (fun _ => ?_)
  · refine rx_aload_n C 0 dX4_addCode_12 rfl rfl ?_
    refine rx_getC C (k := 8) (ld_sh hr0) fc_X4 (by decide) (r0 + 19) rfl lk_X4_42 dX4_addCode_13 ?_
    refine rx_aload_n C 0 dX4_addCode_16 rfl rfl ?_
    refine rx_getI C (k := 9) (ld_sh hr0) fc_X4 (by decide) rfl lk_X4_55 dX4_addCode_17 ?_
    refine rx_iload_n C 1 dX4_addCode_20 rfl rfl ?_
    refine rx_iast C (n := 1600) (ldl_19 hr0) dX4_addCode_21 (fun _ => ?_)
    refine rx_lts (fun σ3 => ?_)
    refine rx_aload_n C 0 dX4_addCode_22 rfl rfl ?_
    refine rx_dup C dX4_addCode_23 rfl ?_
    refine rx_getI C (k := 9) (ld_sh hr0) fc_X4 (by decide) rfl lk_X4_55 dX4_addCode_24 ?_
    refine rx_iconst C dX4_addCode_27 ic_1 ?_
    refine rx_iadd C dX4_addCode_28 ?_
    refine rx_putI C (k := 9) (ld_sh hr0) fc_X4 (by decide) rfl lk_X4_55 rfl ⟨rfl, rfl⟩ dX4_addCode_29 ?_
    refine rx_lts (fun σ4 => ?_)
    refine rx_iconst C dX4_addCode_32 ic_1 ?_
    exact rx_zretC C dX4_addCode_33 rfl
  · refine rx_iconst C dX4_addCode_10 ic_0 ?_
    exact rx_zretC C dX4_addCode_11 rfl
theorem m_X4_addCode (l : Launch) {α : Nat → Nat} {D : va_G} {cA : Nat → ClassId} (hin : inj shX.length α) (r0 : Nat) (hr0 : isLand r0) (x1 : Int32) (σ : St) : CT shX l yX4_addCode cX4_addCode 2 (some .boolean) 0 0 emI α D cA [.ref (α r0), .int x1] σ (f_X4_addCode r0 x1 σ) := ct_of rfl (Nat.le_of_ble_eq_true rfl) hin (fun z _ C => w_X4_addCode_e C r0 hr0 x1 σ)
set_option maxRecDepth 100000 in
set_option maxHeartbeats 4000000 in
theorem w_X8_find_2 {α : Nat → Nat} {D : va_G} {cA : Nat → ClassId} {z : Cz} (C : CX shX α D cA z RX8 cX8_find 3 (some .int) 0 0) (r0 : Nat) (hr0 : isRoll r0) : ∀ (n : Nat) (x1 : Int32) (x2 : Int32) (σ : St), RX emI shX α D cA z 3 σ 2 [(0, .ref (α r0)), (1, .int x1), (2, .int x2)] [] (f_X8_find_2 r0 n x1 x2 σ) := by
  intro n
  induction n with
  | zero => intros; exact rx_none
  | succ n hk_2 =>
    intro x1 x2 σ
    rw [f_X8_find_2.eq_2]
    refine rx_iload_n C 2 dX8_find_2 rfl rfl ?_
    refine rx_aload_n C 0 dX8_find_3 rfl rfl ?_
    refine rx_getI C (k := 4) (ro_sh hr0) fc_X8 (by decide) rfl lk_X8_25 dX8_find_4 ?_
    refine rx_icmp_ge C (tgt := 28) dX8_find_7 (by decide) (fun _ => ?_) (fun _ => ?_)
    · refine rx_iconst C dX8_find_28 ic_m1 ?_
      exact rx_iret C dX8_find_29
    · refine rx_aload_n C 0 dX8_find_10 rfl rfl ?_
      refine rx_getC C (k := 2) (ro_sh hr0) fc_X8 (by decide) (r0 + 1) rfl lk_X8_18 dX8_find_11 ?_
      refine rx_iload_n C 2 dX8_find_14 rfl rfl ?_
      refine rx_iald C (n := (lnX (r0 + 1))) (ro_1 hr0) dX8_find_15 (fun _ => ?_)
      refine rx_iload_n C 1 dX8_find_16 rfl rfl ?_
      refine rx_icmp_ne C (tgt := 22) dX8_find_17 (by decide) (fun _ => ?_) (fun _ => ?_)
      · refine rx_iload_n C 2 dX8_find_20 rfl rfl ?_
        exact rx_iret C dX8_find_21
      · refine rx_iinc C (k0 := 2) (v := x2 + (1 : Int32)) [(2, .int (x2 + (1 : Int32))), (0, .ref (α r0)), (1, .int x1)] dX8_find_22 rfl (congrArg _ ic_1) (by decide) rfl ?_
        refine rx_goto C (tgt := 2) dX8_find_25 (by decide) ?_
        exact RX.loc (hk_2 x1 (x2 + (1 : Int32)) σ) [1, 2, 0] rfl
set_option maxRecDepth 100000 in
set_option maxHeartbeats 4000000 in
theorem w_X8_find_e {α : Nat → Nat} {D : va_G} {cA : Nat → ClassId} {z : Cz} (C : CX shX α D cA z RX8 cX8_find 3 (some .int) 0 0) (r0 : Nat) (hr0 : isRoll r0) (x1 : Int32) (σ : St) : RX emI shX α D cA z 3 σ 0 [(0, .ref (α r0)), (1, .int x1)] [] (f_X8_find r0 x1 σ) := by
  unfold f_X8_find
  refine rx_iconst C dX8_find_0 ic_0 ?_
  refine rx_istore_n C [(2, .int (0 : Int32)), (0, .ref (α r0)), (1, .int x1)] dX8_find_1 rfl (by decide) rfl ?_
  exact RX.loc (w_X8_find_2 C r0 hr0 FU x1 (0 : Int32) σ) [1, 2, 0] rfl
theorem m_X8_find (l : Launch) {α : Nat → Nat} {D : va_G} {cA : Nat → ClassId} (hin : inj shX.length α) (r0 : Nat) (hr0 : isRoll r0) (x1 : Int32) (σ : St) : CT shX l yX8_find cX8_find 3 (some .int) 0 0 emI α D cA [.ref (α r0), .int x1] σ (f_X8_find r0 x1 σ) := ct_of rfl (Nat.le_of_ble_eq_true rfl) hin (fun z _ C => w_X8_find_e C r0 hr0 x1 σ)
set_option maxRecDepth 100000 in
set_option maxHeartbeats 4000000 in
theorem w_X4_isNamed_41 {α : Nat → Nat} {D : va_G} {cA : Nat → ClassId} {z : Cz} (C : CX shX α D cA z RX4 cX4_isNamed 2 (some .boolean) 1 22) (r0 : Nat) (hr0 : isLand r0) (s0 : Int32) (σ : St) : RX emI shX α D cA z 2 σ 41 [] [.int s0] (f_X4_isNamed_41 r0 s0 σ) := by
  unfold f_X4_isNamed_41
  exact rx_zret C dX4_isNamed_41
set_option maxRecDepth 100000 in
set_option maxHeartbeats 4000000 in
theorem w_X4_isNamed_36 {α : Nat → Nat} {D : va_G} {cA : Nat → ClassId} {z : Cz} (C : CX shX α D cA z RX4 cX4_isNamed 2 (some .boolean) 1 22) (r0 : Nat) (hr0 : isLand r0) (σ : St) : RX emI shX α D cA z 2 σ 36 [] [] (f_X4_isNamed_36 r0 σ) := by
  unfold f_X4_isNamed_36
  refine rx_iconst C dX4_isNamed_36 ic_1 ?_
  refine rx_goto C (tgt := 41) dX4_isNamed_37 (by decide) ?_
  exact RX.loc (w_X4_isNamed_41 C r0 hr0 (1 : Int32) σ) [] rfl
set_option maxRecDepth 100000 in
set_option maxHeartbeats 4000000 in
theorem w_X4_isNamed_e {α : Nat → Nat} {D : va_G} {cA : Nat → ClassId} {z : Cz} (C : CX shX α D cA z RX4 cX4_isNamed 2 (some .boolean) 1 22) (r0 : Nat) (hr0 : isLand r0) (x1 : Int32) (σ : St) : RX emI shX α D cA z 2 σ 0 [(0, .ref (α r0)), (1, .int x1)] [] (f_X4_isNamed r0 x1 σ) := by
  unfold f_X4_isNamed
  refine rx_aload_n C 0 dX4_isNamed_0 rfl rfl ?_
  refine rx_getC C (k := 0) (ld_sh hr0) fc_X4 (by decide) (r0 + 1) rfl lk_X4_14 dX4_isNamed_1 ?_
  refine rx_iload_n C 1 dX4_isNamed_4 rfl rfl ?_
  refine rx_callVi C [.int x1] [] (m_X8_find z.l C.inj (r0 + 1) (ld_1 hr0) x1 σ) mv_X8_find lk_X4_61 (ro_sh (ld_1 hr0)) rfl rfl rfl (Nat.le_of_ble_eq_true rfl) ⟨Nat.le_of_ble_eq_true rfl, Nat.le_of_ble_eq_true rfl⟩ dX4_isNamed_5 (fun q4 => ?_)
  refine rx_iconst C dX4_isNamed_8 ic_m1 ?_
  refine rx_icmp_ne C (tgt := 36) dX4_isNamed_9 (by decide) (fun _ => ?_) (fun _ => ?_)
  · refine rx_aload_n C 0 dX4_isNamed_12 rfl rfl ?_
    refine rx_getC C (k := 1) (ld_sh hr0) fc_X4 (by decide) (r0 + 4) rfl lk_X4_20 dX4_isNamed_13 ?_
    refine rx_iload_n C 1 dX4_isNamed_16 rfl rfl ?_
    refine rx_callVi C [.int x1] [] (m_X8_find z.l C.inj (r0 + 4) (ld_4 hr0) x1 q4.2) mv_X8_find lk_X4_61 (ro_sh (ld_4 hr0)) rfl rfl rfl (Nat.le_of_ble_eq_true rfl) ⟨Nat.le_of_ble_eq_true rfl, Nat.le_of_ble_eq_true rfl⟩ dX4_isNamed_17 (fun q5 => ?_)
    refine rx_iconst C dX4_isNamed_20 ic_m1 ?_
    refine rx_icmp_ne C (tgt := 36) dX4_isNamed_21 (by decide) (fun _ => ?_) (fun _ => ?_)
    · refine rx_aload_n C 0 dX4_isNamed_24 rfl rfl ?_
      refine rx_getC C (k := 4) (ld_sh hr0) fc_X4 (by decide) (r0 + 13) rfl lk_X4_29 dX4_isNamed_25 ?_
      refine rx_iload_n C 1 dX4_isNamed_28 rfl rfl ?_
      refine rx_callVi C [.int x1] [] (m_X8_find z.l C.inj (r0 + 13) (ld_13 hr0) x1 q5.2) mv_X8_find lk_X4_61 (ro_sh (ld_13 hr0)) rfl rfl rfl (Nat.le_of_ble_eq_true rfl) ⟨Nat.le_of_ble_eq_true rfl, Nat.le_of_ble_eq_true rfl⟩ dX4_isNamed_29 (fun q6 => ?_)
      refine rx_iconst C dX4_isNamed_32 ic_m1 ?_
      refine rx_icmp_eq C (tgt := 40) dX4_isNamed_33 (by decide) (fun _ => ?_) (fun _ => ?_)
      · refine rx_iconst C dX4_isNamed_40 ic_0 ?_
        exact RX.loc (w_X4_isNamed_41 C r0 hr0 (0 : Int32) q6.2) [] rfl
      · exact RX.loc (w_X4_isNamed_36 C r0 hr0 q6.2) [] rfl
    · exact RX.loc (w_X4_isNamed_36 C r0 hr0 q5.2) [] rfl
  · exact RX.loc (w_X4_isNamed_36 C r0 hr0 q4.2) [] rfl
theorem m_X4_isNamed (l : Launch) {α : Nat → Nat} {D : va_G} {cA : Nat → ClassId} (hin : inj shX.length α) (r0 : Nat) (hr0 : isLand r0) (x1 : Int32) (σ : St) : CT shX l yX4_isNamed cX4_isNamed 2 (some .boolean) 1 22 emI α D cA [.ref (α r0), .int x1] σ (f_X4_isNamed r0 x1 σ) := ct_of rfl (Nat.le_of_ble_eq_true rfl) hin (fun z _ C => w_X4_isNamed_e C r0 hr0 x1 σ)
set_option maxRecDepth 100000 in
set_option maxHeartbeats 4000000 in
theorem w_X4_nameOunces_10 {α : Nat → Nat} {D : va_G} {cA : Nat → ClassId} {z : Cz} (C : CX shX α D cA z RX4 cX4_nameOunces 5 (some .int) 1 21) (r0 : Nat) (hr0 : isLand r0) : ∀ (n : Nat) (x1 : Int32) (x2 : Int32) (x3 : Int32) (x4 : Int32) (σ : St), RX emI shX α D cA z 5 σ 10 [(0, .ref (α r0)), (1, .int x1), (2, .int x2), (3, .int x3), (4, .int x4)] [] (f_X4_nameOunces_10 r0 n x1 x2 x3 x4 σ) := by
  intro n
  induction n with
  | zero => intros; exact rx_none
  | succ n hk_10 =>
    intro x1 x2 x3 x4 σ
    rw [f_X4_nameOunces_10.eq_2]
    refine rx_iload C 4 dX4_nameOunces_10 rfl ?_
    refine rx_iload_n C 3 dX4_nameOunces_12 rfl rfl ?_
    refine rx_icmp_ge C (tgt := 35) dX4_nameOunces_13 (by decide) (fun _ => ?_) (fun _ => ?_)
    · refine rx_iload_n C 2 dX4_nameOunces_35 rfl rfl ?_
      exact rx_iret C dX4_nameOunces_36
    · refine rx_iload_n C 2 dX4_nameOunces_16 rfl rfl ?_
      refine rx_aload_n C 0 dX4_nameOunces_17 rfl rfl ?_
      refine rx_iload_n C 1 dX4_nameOunces_18 rfl rfl ?_
      refine rx_iload C 4 dX4_nameOunces_19 rfl ?_
      refine rx_callSi C [.int x1, .int x4] [.ref (α r0), .int x2] (m_X8_letterOf z.l C.inj x1 x4 σ) ms_X8_letterOf lk_X4_68 rfl rfl (Nat.le_of_ble_eq_true rfl) ⟨Nat.le_of_ble_eq_true rfl, Nat.le_of_ble_eq_true rfl⟩ dX4_nameOunces_21 (fun q6 => ?_)
      refine rx_callVi C [.int q6.1] [.int x2] (m_X4_ouncesOf z.l C.inj r0 hr0 q6.1 q6.2) mv_X4_ouncesOf lk_X4_72 (ld_sh hr0) rfl rfl rfl (Nat.le_of_ble_eq_true rfl) ⟨Nat.le_of_ble_eq_true rfl, Nat.le_of_ble_eq_true rfl⟩ dX4_nameOunces_24 (fun q7 => ?_)
      refine rx_iadd C dX4_nameOunces_27 ?_
      refine rx_lti (fun w8 => ?_)
      refine rx_istore_n C [(2, .int w8), (0, .ref (α r0)), (1, .int x1), (3, .int x3), (4, .int x4)] dX4_nameOunces_28 rfl (by decide) rfl ?_
      refine rx_iinc C (k0 := 4) (v := x4 + (1 : Int32)) [(4, .int (x4 + (1 : Int32))), (2, .int w8), (0, .ref (α r0)), (1, .int x1), (3, .int x3)] dX4_nameOunces_29 rfl (congrArg _ ic_1) (by decide) rfl ?_
      refine rx_goto C (tgt := 10) dX4_nameOunces_32 (by decide) ?_
      exact RX.loc (hk_10 x1 w8 x3 (x4 + (1 : Int32)) q7.2) [2, 3, 1, 4, 0] rfl
set_option maxRecDepth 100000 in
set_option maxHeartbeats 4000000 in
theorem w_X4_nameOunces_e {α : Nat → Nat} {D : va_G} {cA : Nat → ClassId} {z : Cz} (C : CX shX α D cA z RX4 cX4_nameOunces 5 (some .int) 1 21) (r0 : Nat) (hr0 : isLand r0) (x1 : Int32) (σ : St) : RX emI shX α D cA z 5 σ 0 [(0, .ref (α r0)), (1, .int x1)] [] (f_X4_nameOunces r0 x1 σ) := by
  unfold f_X4_nameOunces
  refine rx_iconst C dX4_nameOunces_0 ic_0 ?_
  refine rx_istore_n C [(2, .int (0 : Int32)), (0, .ref (α r0)), (1, .int x1)] dX4_nameOunces_1 rfl (by decide) rfl ?_
  refine rx_iload_n C 2 dX4_nameOunces_2 rfl rfl ?_
  refine rx_callSi C [.int x1] [] (m_X8_lengthOf z.l C.inj x1 σ) ms_X8_lengthOf lk_X4_65 rfl rfl (Nat.le_of_ble_eq_true rfl) ⟨Nat.le_of_ble_eq_true rfl, Nat.le_of_ble_eq_true rfl⟩ dX4_nameOunces_3 (fun q5 => ?_)
  refine rx_istore_n C [(3, .int q5.1), (2, .int (0 : Int32)), (0, .ref (α r0)), (1, .int x1)] dX4_nameOunces_6 rfl (by decide) rfl ?_
  refine rx_iconst C dX4_nameOunces_7 ic_0 ?_
  refine rx_istore C [(4, .int (0 : Int32)), (3, .int q5.1), (2, .int (0 : Int32)), (0, .ref (α r0)), (1, .int x1)] dX4_nameOunces_8 (by decide) rfl ?_
  exact RX.loc (w_X4_nameOunces_10 C r0 hr0 FU x1 (0 : Int32) q5.1 (0 : Int32) q5.2) [3, 4, 2, 1, 0] rfl
theorem m_X4_nameOunces (l : Launch) {α : Nat → Nat} {D : va_G} {cA : Nat → ClassId} (hin : inj shX.length α) (r0 : Nat) (hr0 : isLand r0) (x1 : Int32) (σ : St) : CT shX l yX4_nameOunces cX4_nameOunces 5 (some .int) 1 21 emI α D cA [.ref (α r0), .int x1] σ (f_X4_nameOunces r0 x1 σ) := ct_of rfl (Nat.le_of_ble_eq_true rfl) hin (fun z _ C => w_X4_nameOunces_e C r0 hr0 x1 σ)
set_option maxRecDepth 100000 in
set_option maxHeartbeats 4000000 in
theorem w_X4_weighTitles_2 {α : Nat → Nat} {D : va_G} {cA : Nat → ClassId} {z : Cz} (C : CX shX α D cA z RX4 cX4_weighTitles 2 none 2 45) (r0 : Nat) (hr0 : isLand r0) : ∀ (n : Nat) (x1 : Int32) (σ : St), RX emV shX α D cA z 2 σ 2 [(0, .ref (α r0)), (1, .int x1)] [] (f_X4_weighTitles_2 r0 n x1 σ) := by
  intro n
  induction n with
  | zero => intros; exact rx_none
  | succ n hk_2 =>
    intro x1 σ
    rw [f_X4_weighTitles_2.eq_2]
    refine rx_iload_n C 1 dX4_weighTitles_2 rfl rfl ?_
    refine rx_aload_n C 0 dX4_weighTitles_3 rfl rfl ?_
    refine rx_getC C (k := 1) (ld_sh hr0) fc_X4 (by decide) (r0 + 4) rfl lk_X4_20 dX4_weighTitles_4 ?_
    refine rx_getI C (k := 4) (ro_sh (ld_4 hr0)) fc_X8 (by decide) rfl lk_X4_51 dX4_weighTitles_7 ?_
    refine rx_icmp_ge C (tgt := 40) dX4_weighTitles_10 (by decide) (fun _ => ?_) (fun _ => ?_)
    · exact rx_vret C dX4_weighTitles_40
    · refine rx_aload_n C 0 dX4_weighTitles_13 rfl rfl ?_
      refine rx_getC C (k := 1) (ld_sh hr0) fc_X4 (by decide) (r0 + 4) rfl lk_X4_20 dX4_weighTitles_14 ?_
      refine rx_iload_n C 1 dX4_weighTitles_17 rfl rfl ?_
      refine rx_iconst C dX4_weighTitles_18 ic_1 ?_
      refine rx_aload_n C 0 dX4_weighTitles_19 rfl rfl ?_
      refine rx_aload_n C 0 dX4_weighTitles_20 rfl rfl ?_
      refine rx_getC C (k := 1) (ld_sh hr0) fc_X4 (by decide) (r0 + 4) rfl lk_X4_20 dX4_weighTitles_21 ?_
      refine rx_iload_n C 1 dX4_weighTitles_24 rfl rfl ?_
      refine rx_callVi C [.int x1] [.ref (α r0), .int (1 : Int32), .int x1, .ref (α (r0 + 4))] (m_X8_name z.l C.inj (r0 + 4) (ld_4 hr0) x1 σ) mv_X8_name lk_X4_75 (ro_sh (ld_4 hr0)) rfl rfl rfl (Nat.le_of_ble_eq_true rfl) ⟨Nat.le_of_ble_eq_true rfl, Nat.le_of_ble_eq_true rfl⟩ dX4_weighTitles_25 (fun q4 => ?_)
      refine rx_callVi C [.int q4.1] [.int (1 : Int32), .int x1, .ref (α (r0 + 4))] (m_X4_nameOunces z.l C.inj r0 hr0 q4.1 q4.2) mv_X4_nameOunces lk_X4_78 (ld_sh hr0) rfl rfl rfl (Nat.le_of_ble_eq_true rfl) ⟨Nat.le_of_ble_eq_true rfl, Nat.le_of_ble_eq_true rfl⟩ dX4_weighTitles_28 (fun q5 => ?_)
      refine rx_callVv C [.int x1, .int (1 : Int32), .int q5.1] [] (m_X8_put z.l C.inj (r0 + 4) (ld_4 hr0) x1 (1 : Int32) q5.1 q5.2) mv_X8_put lk_X4_81 (ro_sh (ld_4 hr0)) rfl rfl rfl (Nat.le_of_ble_eq_true rfl) ⟨Nat.le_of_ble_eq_true rfl, Nat.le_of_ble_eq_true rfl⟩ dX4_weighTitles_31 (fun q6 => ?_)
      refine rx_iinc C (k0 := 1) (v := x1 + (1 : Int32)) [(1, .int (x1 + (1 : Int32))), (0, .ref (α r0))] dX4_weighTitles_34 rfl (congrArg _ ic_1) (by decide) rfl ?_
      refine rx_goto C (tgt := 2) dX4_weighTitles_37 (by decide) ?_
      exact RX.loc (hk_2 (x1 + (1 : Int32)) q6.2) [1, 0] rfl
set_option maxRecDepth 100000 in
set_option maxHeartbeats 4000000 in
theorem w_X4_weighTitles_e {α : Nat → Nat} {D : va_G} {cA : Nat → ClassId} {z : Cz} (C : CX shX α D cA z RX4 cX4_weighTitles 2 none 2 45) (r0 : Nat) (hr0 : isLand r0) (σ : St) : RX emV shX α D cA z 2 σ 0 [(0, .ref (α r0))] [] (f_X4_weighTitles r0 σ) := by
  unfold f_X4_weighTitles
  refine rx_iconst C dX4_weighTitles_0 ic_0 ?_
  refine rx_istore_n C [(1, .int (0 : Int32)), (0, .ref (α r0))] dX4_weighTitles_1 rfl (by decide) rfl ?_
  exact RX.loc (w_X4_weighTitles_2 C r0 hr0 FU (0 : Int32) σ) [1, 0] rfl
theorem m_X4_weighTitles (l : Launch) {α : Nat → Nat} {D : va_G} {cA : Nat → ClassId} (hin : inj shX.length α) (r0 : Nat) (hr0 : isLand r0) (σ : St) : CT shX l yX4_weighTitles cX4_weighTitles 2 none 2 45 emV α D cA [.ref (α r0)] σ (f_X4_weighTitles r0 σ) := ct_of rfl (Nat.le_of_ble_eq_true rfl) hin (fun z _ C => w_X4_weighTitles_e C r0 hr0 σ)
set_option maxRecDepth 100000 in
set_option maxHeartbeats 4000000 in
theorem w_X4_likely_43 {α : Nat → Nat} {D : va_G} {cA : Nat → ClassId} {z : Cz} (C : CX shX α D cA z RX4 cX4_likely 8 (some .long) 1 22) (r0 : Nat) (hr0 : isLand r0) (k_19 : Int32 → Int32 → Int32 → Int64 → Int32 → St → Option (Int64 × St)) (hk_19 : ∀ (x2 : Int32) (x3 : Int32) (x4 : Int32) (y5 : Int64) (x7 : Int32) (σ : St), RX emL shX α D cA z 8 σ 19 [(2, .int x2), (3, .int x3), (4, .int x4), (5, .long y5), (7, .int x7)] [] (k_19 x2 x3 x4 y5 x7 σ)) (x2 : Int32) (x3 : Int32) (x4 : Int32) (x7 : Int32) (s1 : Int32) (t0 : Int64) (σ : St) : RX emL shX α D cA z 8 σ 43 [(2, .int x2), (3, .int x3), (4, .int x4), (7, .int x7)] [.int s1, .long t0] (f_X4_likely_43 r0 k_19 x2 x3 x4 x7 s1 t0 σ) := by
  unfold f_X4_likely_43
  refine rx_i2l C dX4_likely_43 ?_
  refine rx_lmul C dX4_likely_44 ?_
  refine rx_ldc2_w C lk_X4_96 dX4_likely_45 ?_
  refine rx_ldivC C dX4_likely_48 (by decide) ?_
  refine rx_ltl (fun w4 => ?_)
  refine rx_lstore C [(5, .long w4), (2, .int x2), (3, .int x3), (4, .int x4), (7, .int x7)] dX4_likely_49 (by decide) rfl ?_
  refine rx_iinc C (k0 := 4) (v := x7 + (1 : Int32)) [(7, .int (x7 + (1 : Int32))), (5, .long w4), (2, .int x2), (3, .int x3), (4, .int x4)] dX4_likely_51 rfl (congrArg _ ic_1) (by decide) rfl ?_
  refine rx_goto C (tgt := 19) dX4_likely_54 (by decide) ?_
  exact RX.loc (hk_19 x2 x3 x4 w4 (x7 + (1 : Int32)) σ) [2, 3, 4, 1, 0] rfl
set_option maxRecDepth 100000 in
set_option maxHeartbeats 4000000 in
theorem w_X4_likely_19 {α : Nat → Nat} {D : va_G} {cA : Nat → ClassId} {z : Cz} (C : CX shX α D cA z RX4 cX4_likely 8 (some .long) 1 22) (r0 : Nat) (hr0 : isLand r0) : ∀ (n : Nat) (x2 : Int32) (x3 : Int32) (x4 : Int32) (y5 : Int64) (x7 : Int32) (σ : St), RX emL shX α D cA z 8 σ 19 [(2, .int x2), (3, .int x3), (4, .int x4), (5, .long y5), (7, .int x7)] [] (f_X4_likely_19 r0 n x2 x3 x4 y5 x7 σ) := by
  intro n
  induction n with
  | zero => intros; exact rx_none
  | succ n hk_19 =>
    intro x2 x3 x4 y5 x7 σ
    rw [f_X4_likely_19.eq_2]
    refine rx_iload C 4 dX4_likely_19 rfl ?_
    refine rx_iload_n C 0 dX4_likely_21 rfl rfl ?_
    refine rx_icmp_ge C (tgt := 57) dX4_likely_22 (by decide) (fun _ => ?_) (fun _ => ?_)
    · refine rx_lload C 3 dX4_likely_57 rfl ?_
      exact rx_lret C dX4_likely_59
    · refine rx_lload C 3 dX4_likely_25 rfl ?_
      refine rx_iload C 4 dX4_likely_27 rfl ?_
      refine rx_iload_n C 1 dX4_likely_29 rfl rfl ?_
      refine rx_icmp_ge C (tgt := 38) dX4_likely_30 (by decide) (fun _ => ?_) (fun _ => ?_)
      · refine rx_bipush C dX4_likely_38 bp_100 ?_
        refine rx_iload C 2 dX4_likely_40 rfl ?_
        refine rx_isub C dX4_likely_42 ?_
        exact RX.loc (w_X4_likely_43 C r0 hr0 (f_X4_likely_19 r0 n) hk_19 x2 x3 x4 x7 ((100 : Int32) - x4) y5 σ) [0, 1, 2, 4] rfl
      · refine rx_iload C 2 dX4_likely_33 rfl ?_
        refine rx_goto C (tgt := 43) dX4_likely_35 (by decide) ?_
        exact RX.loc (w_X4_likely_43 C r0 hr0 (f_X4_likely_19 r0 n) hk_19 x2 x3 x4 x7 x4 y5 σ) [0, 1, 2, 4] rfl
set_option maxRecDepth 100000 in
set_option maxHeartbeats 4000000 in
theorem w_X4_likely_e {α : Nat → Nat} {D : va_G} {cA : Nat → ClassId} {z : Cz} (C : CX shX α D cA z RX4 cX4_likely 8 (some .long) 1 22) (r0 : Nat) (hr0 : isLand r0) (x1 : Int32) (x2 : Int32) (x3 : Int32) (σ : St) : RX emL shX α D cA z 8 σ 0 [(0, .ref (α r0)), (1, .int x1), (2, .int x2), (3, .int x3)] [] (f_X4_likely r0 x1 x2 x3 σ) := by
  unfold f_X4_likely
  refine rx_aload_n C 0 dX4_likely_0 rfl rfl ?_
  refine rx_getC C (k := 0) (ld_sh hr0) fc_X4 (by decide) (r0 + 1) rfl lk_X4_14 dX4_likely_1 ?_
  refine rx_iload_n C 1 dX4_likely_4 rfl rfl ?_
  refine rx_iconst C dX4_likely_5 ic_2 ?_
  refine rx_callVi C [.int x1, .int (2 : Int32)] [] (m_X8_get z.l C.inj (r0 + 1) (ld_1 hr0) x1 (2 : Int32) σ) mv_X8_get lk_X4_85 (ro_sh (ld_1 hr0)) rfl rfl rfl (Nat.le_of_ble_eq_true rfl) ⟨Nat.le_of_ble_eq_true rfl, Nat.le_of_ble_eq_true rfl⟩ dX4_likely_6 (fun q3 => ?_)
  refine rx_istore C [(4, .int q3.1), (0, .ref (α r0)), (1, .int x1), (2, .int x2), (3, .int x3)] dX4_likely_9 (by decide) rfl ?_
  refine rx_ldc2_w C lk_X4_94 dX4_likely_11 ?_
  refine rx_lstore C [(5, .long (1000000000 : Int64)), (4, .int q3.1), (0, .ref (α r0)), (1, .int x1), (2, .int x2), (3, .int x3)] dX4_likely_14 (by decide) rfl ?_
  refine rx_iconst C dX4_likely_16 ic_0 ?_
  refine rx_istore C [(7, .int (0 : Int32)), (5, .long (1000000000 : Int64)), (4, .int q3.1), (0, .ref (α r0)), (1, .int x1), (2, .int x2), (3, .int x3)] dX4_likely_17 (by decide) rfl ?_
  exact RX.loc (w_X4_likely_19 C r0 hr0 FU x2 x3 q3.1 (1000000000 : Int64) (0 : Int32) q3.2) [5, 6, 2, 1, 0] rfl
theorem m_X4_likely (l : Launch) {α : Nat → Nat} {D : va_G} {cA : Nat → ClassId} (hin : inj shX.length α) (r0 : Nat) (hr0 : isLand r0) (x1 : Int32) (x2 : Int32) (x3 : Int32) (σ : St) : CT shX l yX4_likely cX4_likely 8 (some .long) 1 22 emL α D cA [.ref (α r0), .int x1, .int x2, .int x3] σ (f_X4_likely r0 x1 x2 x3 σ) := ct_of rfl (Nat.le_of_ble_eq_true rfl) hin (fun z _ C => w_X4_likely_e C r0 hr0 x1 x2 x3 σ)
set_option maxRecDepth 100000 in
set_option maxHeartbeats 4000000 in
theorem w_X4_shareOf_63 {α : Nat → Nat} {D : va_G} {cA : Nat → ClassId} {z : Cz} (C : CX shX α D cA z RX4 cX4_shareOf 7 (some .int) 2 49) (r0 : Nat) (hr0 : isLand r0) (s0 : Int32) (σ : St) : RX emI shX α D cA z 7 σ 63 [] [.int s0] (f_X4_shareOf_63 r0 s0 σ) := by
  unfold f_X4_shareOf_63
  exact rx_iret C dX4_shareOf_63
set_option maxRecDepth 100000 in
set_option maxHeartbeats 4000000 in
theorem w_X4_shareOf_6 {α : Nat → Nat} {D : va_G} {cA : Nat → ClassId} {z : Cz} (C : CX shX α D cA z RX4 cX4_shareOf 7 (some .int) 2 49) (r0 : Nat) (hr0 : isLand r0) : ∀ (n : Nat) (x1 : Int32) (x2 : Int32) (x3 : Int32) (y4 : Int64) (x6 : Int32) (σ : St), RX emI shX α D cA z 7 σ 6 [(0, .ref (α r0)), (1, .int x1), (2, .int x2), (3, .int x3), (4, .long y4), (6, .int x6)] [] (f_X4_shareOf_6 r0 n x1 x2 x3 y4 x6 σ) := by
  intro n
  induction n with
  | zero => intros; exact rx_none
  | succ n hk_6 =>
    intro x1 x2 x3 y4 x6 σ
    rw [f_X4_shareOf_6.eq_2]
    refine rx_iload C 5 dX4_shareOf_6 rfl ?_
    refine rx_aload_n C 0 dX4_shareOf_8 rfl rfl ?_
    refine rx_getC C (k := 0) (ld_sh hr0) fc_X4 (by decide) (r0 + 1) rfl lk_X4_14 dX4_shareOf_9 ?_
    refine rx_getI C (k := 4) (ro_sh (ld_1 hr0)) fc_X8 (by decide) rfl lk_X4_51 dX4_shareOf_12 ?_
    refine rx_icmp_ge C (tgt := 37) dX4_shareOf_15 (by decide) (fun _ => ?_) (fun _ => ?_)
    · refine rx_lload C 4 dX4_shareOf_37 rfl ?_
      refine rx_lconst C dX4_shareOf_39 lc_0 ?_
      refine rx_lcmp C dX4_shareOf_40 ?_
      refine rx_if_gt C (tgt := 48) dX4_shareOf_41 (by decide) (fun _ => ?_) (fun _ => ?_)
      · refine rx_ldc2_w C lk_X4_92 dX4_shareOf_48 ?_
        refine rx_aload_n C 0 dX4_shareOf_51 rfl rfl ?_
        refine rx_iload_n C 1 dX4_shareOf_52 rfl rfl ?_
        refine rx_iload_n C 2 dX4_shareOf_53 rfl rfl ?_
        refine rx_iload_n C 3 dX4_shareOf_54 rfl rfl ?_
        refine rx_callVl C [.int x1, .int x2, .int x3] [.long (1000 : Int64)] (m_X4_likely z.l C.inj r0 hr0 x1 x2 x3 σ) mv_X4_likely lk_X4_88 (ld_sh hr0) rfl rfl rfl (Nat.le_of_ble_eq_true rfl) ⟨Nat.le_of_ble_eq_true rfl, Nat.le_of_ble_eq_true rfl⟩ dX4_shareOf_55 (fun q4 => ?_)
        refine rx_lmul C dX4_shareOf_58 ?_
        refine rx_lload C 4 dX4_shareOf_59 rfl ?_
        refine rx_ldiv C dX4_shareOf_61 (fun _ => ?_)
        refine rx_l2i C dX4_shareOf_62 ?_
        exact RX.loc (w_X4_shareOf_63 C r0 hr0 ((((1000 : Int64) * q4.1) / y4).toInt32) q4.2) [] rfl
      · refine rx_iconst C dX4_shareOf_44 ic_0 ?_
        refine rx_goto C (tgt := 63) dX4_shareOf_45 (by decide) ?_
        exact RX.loc (w_X4_shareOf_63 C r0 hr0 (0 : Int32) σ) [] rfl
    · refine rx_lload C 4 dX4_shareOf_18 rfl ?_
      refine rx_aload_n C 0 dX4_shareOf_20 rfl rfl ?_
      refine rx_iload C 5 dX4_shareOf_21 rfl ?_
      refine rx_iload_n C 2 dX4_shareOf_23 rfl rfl ?_
      refine rx_iload_n C 3 dX4_shareOf_24 rfl rfl ?_
      refine rx_callVl C [.int x6, .int x2, .int x3] [.long y4] (m_X4_likely z.l C.inj r0 hr0 x6 x2 x3 σ) mv_X4_likely lk_X4_88 (ld_sh hr0) rfl rfl rfl (Nat.le_of_ble_eq_true rfl) ⟨Nat.le_of_ble_eq_true rfl, Nat.le_of_ble_eq_true rfl⟩ dX4_shareOf_25 (fun q5 => ?_)
      refine rx_ladd C dX4_shareOf_28 ?_
      refine rx_ltl (fun w6 => ?_)
      refine rx_lstore C [(4, .long w6), (0, .ref (α r0)), (1, .int x1), (2, .int x2), (3, .int x3), (6, .int x6)] dX4_shareOf_29 (by decide) rfl ?_
      refine rx_iinc C (k0 := 5) (v := x6 + (1 : Int32)) [(6, .int (x6 + (1 : Int32))), (4, .long w6), (0, .ref (α r0)), (1, .int x1), (2, .int x2), (3, .int x3)] dX4_shareOf_31 rfl (congrArg _ ic_1) (by decide) rfl ?_
      refine rx_goto C (tgt := 6) dX4_shareOf_34 (by decide) ?_
      exact RX.loc (hk_6 x1 x2 x3 w6 (x6 + (1 : Int32)) q5.2) [2, 3, 4, 5, 1, 0] rfl
set_option maxRecDepth 100000 in
set_option maxHeartbeats 4000000 in
theorem w_X4_shareOf_e {α : Nat → Nat} {D : va_G} {cA : Nat → ClassId} {z : Cz} (C : CX shX α D cA z RX4 cX4_shareOf 7 (some .int) 2 49) (r0 : Nat) (hr0 : isLand r0) (x1 : Int32) (x2 : Int32) (x3 : Int32) (σ : St) : RX emI shX α D cA z 7 σ 0 [(0, .ref (α r0)), (1, .int x1), (2, .int x2), (3, .int x3)] [] (f_X4_shareOf r0 x1 x2 x3 σ) := by
  unfold f_X4_shareOf
  refine rx_lconst C dX4_shareOf_0 lc_0 ?_
  refine rx_lstore C [(4, .long (0 : Int64)), (0, .ref (α r0)), (1, .int x1), (2, .int x2), (3, .int x3)] dX4_shareOf_1 (by decide) rfl ?_
  refine rx_iconst C dX4_shareOf_3 ic_0 ?_
  refine rx_istore C [(6, .int (0 : Int32)), (4, .long (0 : Int64)), (0, .ref (α r0)), (1, .int x1), (2, .int x2), (3, .int x3)] dX4_shareOf_4 (by decide) rfl ?_
  exact RX.loc (w_X4_shareOf_6 C r0 hr0 FU x1 x2 x3 (0 : Int64) (0 : Int32) σ) [2, 3, 4, 5, 1, 0] rfl
theorem m_X4_shareOf (l : Launch) {α : Nat → Nat} {D : va_G} {cA : Nat → ClassId} (hin : inj shX.length α) (r0 : Nat) (hr0 : isLand r0) (x1 : Int32) (x2 : Int32) (x3 : Int32) (σ : St) : CT shX l yX4_shareOf cX4_shareOf 7 (some .int) 2 49 emI α D cA [.ref (α r0), .int x1, .int x2, .int x3] σ (f_X4_shareOf r0 x1 x2 x3 σ) := ct_of rfl (Nat.le_of_ble_eq_true rfl) hin (fun z _ C => w_X4_shareOf_e C r0 hr0 x1 x2 x3 σ)
set_option maxRecDepth 100000 in
set_option maxHeartbeats 4000000 in
theorem w_X4_pairLength_e {α : Nat → Nat} {D : va_G} {cA : Nat → ClassId} {z : Cz} (C : CX shX α D cA z RX4 cX4_pairLength 3 (some .int) 2 42) (r0 : Nat) (hr0 : isLand r0) (x1 : Int32) (x2 : Int32) (σ : St) : RX emI shX α D cA z 3 σ 0 [(0, .ref (α r0)), (1, .int x1), (2, .int x2)] [] (f_X4_pairLength r0 x1 x2 σ) := by
  unfold f_X4_pairLength
  refine rx_aload_n C 0 dX4_pairLength_0 rfl rfl ?_
  refine rx_getC C (k := 1) (ld_sh hr0) fc_X4 (by decide) (r0 + 4) rfl lk_X4_20 dX4_pairLength_1 ?_
  refine rx_iload_n C 1 dX4_pairLength_4 rfl rfl ?_
  refine rx_callVi C [.int x1] [] (m_X8_name z.l C.inj (r0 + 4) (ld_4 hr0) x1 σ) mv_X8_name lk_X4_75 (ro_sh (ld_4 hr0)) rfl rfl rfl (Nat.le_of_ble_eq_true rfl) ⟨Nat.le_of_ble_eq_true rfl, Nat.le_of_ble_eq_true rfl⟩ dX4_pairLength_5 (fun q5 => ?_)
  refine rx_callSi C [.int q5.1] [] (m_X8_lengthOf z.l C.inj q5.1 q5.2) ms_X8_lengthOf lk_X4_65 rfl rfl (Nat.le_of_ble_eq_true rfl) ⟨Nat.le_of_ble_eq_true rfl, Nat.le_of_ble_eq_true rfl⟩ dX4_pairLength_8 (fun q6 => ?_)
  refine rx_aload_n C 0 dX4_pairLength_11 rfl rfl ?_
  refine rx_getC C (k := 1) (ld_sh hr0) fc_X4 (by decide) (r0 + 4) rfl lk_X4_20 dX4_pairLength_12 ?_
  refine rx_iload_n C 2 dX4_pairLength_15 rfl rfl ?_
  refine rx_callVi C [.int x2] [.int q6.1] (m_X8_name z.l C.inj (r0 + 4) (ld_4 hr0) x2 q6.2) mv_X8_name lk_X4_75 (ro_sh (ld_4 hr0)) rfl rfl rfl (Nat.le_of_ble_eq_true rfl) ⟨Nat.le_of_ble_eq_true rfl, Nat.le_of_ble_eq_true rfl⟩ dX4_pairLength_16 (fun q7 => ?_)
  refine rx_callSi C [.int q7.1] [.int q6.1] (m_X8_lengthOf z.l C.inj q7.1 q7.2) ms_X8_lengthOf lk_X4_65 rfl rfl (Nat.le_of_ble_eq_true rfl) ⟨Nat.le_of_ble_eq_true rfl, Nat.le_of_ble_eq_true rfl⟩ dX4_pairLength_19 (fun q8 => ?_)
  refine rx_iadd C dX4_pairLength_22 ?_
  exact rx_iret C dX4_pairLength_23
theorem m_X4_pairLength (l : Launch) {α : Nat → Nat} {D : va_G} {cA : Nat → ClassId} (hin : inj shX.length α) (r0 : Nat) (hr0 : isLand r0) (x1 : Int32) (x2 : Int32) (σ : St) : CT shX l yX4_pairLength cX4_pairLength 3 (some .int) 2 42 emI α D cA [.ref (α r0), .int x1, .int x2] σ (f_X4_pairLength r0 x1 x2 σ) := ct_of rfl (Nat.le_of_ble_eq_true rfl) hin (fun z _ C => w_X4_pairLength_e C r0 hr0 x1 x2 σ)
set_option maxRecDepth 100000 in
set_option maxHeartbeats 4000000 in
theorem w_X4_start_e {α : Nat → Nat} {D : va_G} {cA : Nat → ClassId} {z : Cz} (C : CX shX α D cA z RX4 cX4_start 2 (some .int) 0 0) (x0 : Int32) (x1 : Int32) (σ : St) : RX emI shX α D cA z 2 σ 0 [(0, .int x0), (1, .int x1)] [] (f_X4_start x0 x1 σ) := by
  unfold f_X4_start
  refine rx_iload_n C 0 dX4_start_0 rfl rfl ?_
  refine rx_iconst C dX4_start_1 ic_1 ?_
  refine rx_iload_n C 1 dX4_start_2 rfl rfl ?_
  refine rx_iconst C dX4_start_3 ic_5 ?_
  refine rx_imul C dX4_start_4 ?_
  refine rx_ishl C dX4_start_5 ?_
  refine rx_iconst C dX4_start_6 ic_1 ?_
  refine rx_isub C dX4_start_7 ?_
  refine rx_iand C dX4_start_8 ?_
  exact rx_iret C dX4_start_9
theorem m_X4_start (l : Launch) {α : Nat → Nat} {D : va_G} {cA : Nat → ClassId} (hin : inj shX.length α) (x0 : Int32) (x1 : Int32) (σ : St) : CT shX l yX4_start cX4_start 2 (some .int) 0 0 emI α D cA [.int x0, .int x1] σ (f_X4_start x0 x1 σ) := ct_of rfl (Nat.le_of_ble_eq_true rfl) hin (fun z _ C => w_X4_start_e C x0 x1 σ)
set_option maxRecDepth 100000 in
set_option maxHeartbeats 4000000 in
theorem w_X4_isWithin_15 {α : Nat → Nat} {D : va_G} {cA : Nat → ClassId} {z : Cz} (C : CX shX α D cA z RX4 cX4_isWithin 5 (some .boolean) 1 21) : ∀ (n : Nat) (x0 : Int32) (x1 : Int32) (x2 : Int32) (x3 : Int32) (x4 : Int32) (σ : St), RX emI shX α D cA z 5 σ 15 [(0, .int x0), (1, .int x1), (2, .int x2), (3, .int x3), (4, .int x4)] [] (f_X4_isWithin_15 n x0 x1 x2 x3 x4 σ) := by
  intro n
  induction n with
  | zero => intros; exact rx_none
  | succ n hk_15 =>
    intro x0 x1 x2 x3 x4 σ
    rw [f_X4_isWithin_15.eq_2]
    refine rx_iload C 4 dX4_isWithin_15 rfl ?_
    refine rx_iload_n C 3 dX4_isWithin_17 rfl rfl ?_
    refine rx_icmp_gt C (tgt := 43) dX4_isWithin_18 (by decide) (fun _ => ?_) (fun _ => ?_)
    · refine rx_iconst C dX4_isWithin_43 ic_0 ?_
      exact rx_zretC C dX4_isWithin_44 rfl
    · refine rx_iload_n C 1 dX4_isWithin_21 rfl rfl ?_
      refine rx_iload C 4 dX4_isWithin_22 rfl ?_
      refine rx_iconst C dX4_isWithin_24 ic_5 ?_
      refine rx_imul C dX4_isWithin_25 ?_
      refine rx_ishr C dX4_isWithin_26 ?_
      refine rx_iload_n C 2 dX4_isWithin_27 rfl rfl ?_
      refine rx_callSi C [.int (x1 >>> ((x4 * (5 : Int32)) &&& 31)), .int x2] [] (m_X4_start z.l C.inj (x1 >>> ((x4 * (5 : Int32)) &&& 31)) x2 σ) ms_X4_start lk_X4_113 rfl rfl (Nat.le_of_ble_eq_true rfl) ⟨Nat.le_of_ble_eq_true rfl, Nat.le_of_ble_eq_true rfl⟩ dX4_isWithin_28 (fun q8 => ?_)
      refine rx_iload_n C 0 dX4_isWithin_31 rfl rfl ?_
      refine rx_icmp_ne C (tgt := 37) dX4_isWithin_32 (by decide) (fun _ => ?_) (fun _ => ?_)
      · refine rx_iconst C dX4_isWithin_35 ic_1 ?_
        exact rx_zretC C dX4_isWithin_36 rfl
      · refine rx_iinc C (k0 := 4) (v := x4 + (1 : Int32)) [(4, .int (x4 + (1 : Int32))), (0, .int x0), (1, .int x1), (2, .int x2), (3, .int x3)] dX4_isWithin_37 rfl (congrArg _ ic_1) (by decide) rfl ?_
        refine rx_goto C (tgt := 15) dX4_isWithin_40 (by decide) ?_
        exact RX.loc (hk_15 x0 x1 x2 x3 (x4 + (1 : Int32)) q8.2) [1, 2, 3, 4, 0] rfl
set_option maxRecDepth 100000 in
set_option maxHeartbeats 4000000 in
theorem w_X4_isWithin_e {α : Nat → Nat} {D : va_G} {cA : Nat → ClassId} {z : Cz} (C : CX shX α D cA z RX4 cX4_isWithin 5 (some .boolean) 1 21) (x0 : Int32) (x1 : Int32) (σ : St) : RX emI shX α D cA z 5 σ 0 [(0, .int x0), (1, .int x1)] [] (f_X4_isWithin x0 x1 σ) := by
  unfold f_X4_isWithin
  refine rx_iload_n C 0 dX4_isWithin_0 rfl rfl ?_
  refine rx_callSi C [.int x0] [] (m_X8_lengthOf z.l C.inj x0 σ) ms_X8_lengthOf lk_X4_65 rfl rfl (Nat.le_of_ble_eq_true rfl) ⟨Nat.le_of_ble_eq_true rfl, Nat.le_of_ble_eq_true rfl⟩ dX4_isWithin_1 (fun q5 => ?_)
  refine rx_istore_n C [(2, .int q5.1), (0, .int x0), (1, .int x1)] dX4_isWithin_4 rfl (by decide) rfl ?_
  refine rx_iload_n C 2 dX4_isWithin_5 rfl rfl ?_
  refine rx_callSi C [.int x1] [] (m_X8_lengthOf z.l C.inj x1 q5.2) ms_X8_lengthOf lk_X4_65 rfl rfl (Nat.le_of_ble_eq_true rfl) ⟨Nat.le_of_ble_eq_true rfl, Nat.le_of_ble_eq_true rfl⟩ dX4_isWithin_6 (fun q6 => ?_)
  refine rx_iload_n C 0 dX4_isWithin_9 rfl rfl ?_
  refine rx_isub C dX4_isWithin_10 ?_
  refine rx_lti (fun w7 => ?_)
  refine rx_istore_n C [(3, .int w7), (2, .int q5.1), (0, .int x0), (1, .int x1)] dX4_isWithin_11 rfl (by decide) rfl ?_
  refine rx_iconst C dX4_isWithin_12 ic_0 ?_
  refine rx_istore C [(4, .int (0 : Int32)), (3, .int w7), (2, .int q5.1), (0, .int x0), (1, .int x1)] dX4_isWithin_13 (by decide) rfl ?_
  exact RX.loc (w_X4_isWithin_15 C FU x0 x1 q5.1 w7 (0 : Int32) q6.2) [3, 4, 2, 1, 0] rfl
theorem m_X4_isWithin (l : Launch) {α : Nat → Nat} {D : va_G} {cA : Nat → ClassId} (hin : inj shX.length α) (x0 : Int32) (x1 : Int32) (σ : St) : CT shX l yX4_isWithin cX4_isWithin 5 (some .boolean) 1 21 emI α D cA [.int x0, .int x1] σ (f_X4_isWithin x0 x1 σ) := ct_of rfl (Nat.le_of_ble_eq_true rfl) hin (fun z _ C => w_X4_isWithin_e C x0 x1 σ)
set_option maxRecDepth 100000 in
set_option maxHeartbeats 4000000 in
theorem w_X4_joint_14 {α : Nat → Nat} {D : va_G} {cA : Nat → ClassId} {z : Cz} (C : CX shX α D cA z RX4 cX4_joint 4 (some .int) 1 21) : ∀ (n : Nat) (x0 : Int32) (x1 : Int32) (x2 : Int32) (x3 : Int32) (σ : St), RX emI shX α D cA z 4 σ 14 [(0, .int x0), (1, .int x1), (2, .int x2), (3, .int x3)] [] (f_X4_joint_14 n x0 x1 x2 x3 σ) := by
  intro n
  induction n with
  | zero => intros; exact rx_none
  | succ n hk_14 =>
    intro x0 x1 x2 x3 σ
    rw [f_X4_joint_14.eq_2]
    refine rx_iload_n C 3 dX4_joint_14 rfl rfl ?_
    refine rx_if_le C (tgt := 41) dX4_joint_15 (by decide) (fun _ => ?_) (fun _ => ?_)
    · refine rx_iconst C dX4_joint_41 ic_0 ?_
      exact rx_iret C dX4_joint_42
    · refine rx_iload_n C 0 dX4_joint_18 rfl rfl ?_
      refine rx_iload_n C 2 dX4_joint_19 rfl rfl ?_
      refine rx_iload_n C 3 dX4_joint_20 rfl rfl ?_
      refine rx_isub C dX4_joint_21 ?_
      refine rx_iconst C dX4_joint_22 ic_5 ?_
      refine rx_imul C dX4_joint_23 ?_
      refine rx_ishr C dX4_joint_24 ?_
      refine rx_iload_n C 1 dX4_joint_25 rfl rfl ?_
      refine rx_iload_n C 3 dX4_joint_26 rfl rfl ?_
      refine rx_callSi C [.int x1, .int x3] [.int (x0 >>> (((x2 - x3) * (5 : Int32)) &&& 31))] (m_X4_start z.l C.inj x1 x3 σ) ms_X4_start lk_X4_113 rfl rfl (Nat.le_of_ble_eq_true rfl) ⟨Nat.le_of_ble_eq_true rfl, Nat.le_of_ble_eq_true rfl⟩ dX4_joint_27 (fun q8 => ?_)
      refine rx_icmp_ne C (tgt := 35) dX4_joint_30 (by decide) (fun _ => ?_) (fun _ => ?_)
      · refine rx_iload_n C 3 dX4_joint_33 rfl rfl ?_
        exact rx_iret C dX4_joint_34
      · refine rx_iinc C (k0 := 3) (v := x3 + (-1 : Int32)) [(3, .int (x3 + (-1 : Int32))), (0, .int x0), (1, .int x1), (2, .int x2)] dX4_joint_35 rfl (congrArg _ ic_m1) (by decide) rfl ?_
        refine rx_goto C (tgt := 14) dX4_joint_38 (by decide) ?_
        exact RX.loc (hk_14 x0 x1 x2 (x3 + (-1 : Int32)) q8.2) [1, 2, 3, 0] rfl
set_option maxRecDepth 100000 in
set_option maxHeartbeats 4000000 in
theorem w_X4_joint_e {α : Nat → Nat} {D : va_G} {cA : Nat → ClassId} {z : Cz} (C : CX shX α D cA z RX4 cX4_joint 4 (some .int) 1 21) (x0 : Int32) (x1 : Int32) (σ : St) : RX emI shX α D cA z 4 σ 0 [(0, .int x0), (1, .int x1)] [] (f_X4_joint x0 x1 σ) := by
  unfold f_X4_joint
  refine rx_iload_n C 0 dX4_joint_0 rfl rfl ?_
  refine rx_callSi C [.int x0] [] (m_X8_lengthOf z.l C.inj x0 σ) ms_X8_lengthOf lk_X4_65 rfl rfl (Nat.le_of_ble_eq_true rfl) ⟨Nat.le_of_ble_eq_true rfl, Nat.le_of_ble_eq_true rfl⟩ dX4_joint_1 (fun q5 => ?_)
  refine rx_istore_n C [(2, .int q5.1), (0, .int x0), (1, .int x1)] dX4_joint_4 rfl (by decide) rfl ?_
  refine rx_iload_n C 0 dX4_joint_5 rfl rfl ?_
  refine rx_iload_n C 2 dX4_joint_6 rfl rfl ?_
  refine rx_callSi C [.int x1] [.int q5.1] (m_X8_lengthOf z.l C.inj x1 q5.2) ms_X8_lengthOf lk_X4_65 rfl rfl (Nat.le_of_ble_eq_true rfl) ⟨Nat.le_of_ble_eq_true rfl, Nat.le_of_ble_eq_true rfl⟩ dX4_joint_7 (fun q6 => ?_)
  refine rx_callSi C [.int q5.1, .int q6.1] [] (m_J9_min_7cf53 z.l C.inj q5.1 q6.1 q6.2) ms_J9_min_7cf53 lk_X4_102 rfl rfl (Nat.le_of_ble_eq_true rfl) ⟨Nat.le_of_ble_eq_true rfl, Nat.le_of_ble_eq_true rfl⟩ dX4_joint_10 (fun q7 => ?_)
  refine rx_istore_n C [(3, .int q7.1), (2, .int q5.1), (0, .int x0), (1, .int x1)] dX4_joint_13 rfl (by decide) rfl ?_
  exact RX.loc (w_X4_joint_14 C FU x0 x1 q5.1 q7.1 q7.2) [2, 3, 1, 0] rfl
theorem m_X4_joint (l : Launch) {α : Nat → Nat} {D : va_G} {cA : Nat → ClassId} (hin : inj shX.length α) (x0 : Int32) (x1 : Int32) (σ : St) : CT shX l yX4_joint cX4_joint 4 (some .int) 1 21 emI α D cA [.int x0, .int x1] σ (f_X4_joint x0 x1 σ) := ct_of rfl (Nat.le_of_ble_eq_true rfl) hin (fun z _ C => w_X4_joint_e C x0 x1 σ)
set_option maxRecDepth 100000 in
set_option maxHeartbeats 4000000 in
theorem w_X4_shared_37 {α : Nat → Nat} {D : va_G} {cA : Nat → ClassId} {z : Cz} (C : CX shX α D cA z RX4 cX4_shared 5 (some .int) 2 45) (r0 : Nat) (hr0 : isLand r0) (x3 : Int32) (x4 : Int32) (σ : St) : RX emI shX α D cA z 5 σ 37 [(3, .int x3), (4, .int x4)] [] (f_X4_shared_37 r0 x3 x4 σ) := by
  unfold f_X4_shared_37
  refine rx_iload_n C 0 dX4_shared_37 rfl rfl ?_
  refine rx_callSi C [.int x3] [] (m_X8_lengthOf z.l C.inj x3 σ) ms_X8_lengthOf lk_X4_65 rfl rfl (Nat.le_of_ble_eq_true rfl) ⟨Nat.le_of_ble_eq_true rfl, Nat.le_of_ble_eq_true rfl⟩ dX4_shared_38 (fun q18 => ?_)
  refine rx_iload C 1 dX4_shared_41 rfl ?_
  refine rx_callSi C [.int x4] [.int q18.1] (m_X8_lengthOf z.l C.inj x4 q18.2) ms_X8_lengthOf lk_X4_65 rfl rfl (Nat.le_of_ble_eq_true rfl) ⟨Nat.le_of_ble_eq_true rfl, Nat.le_of_ble_eq_true rfl⟩ dX4_shared_43 (fun q19 => ?_)
  refine rx_callSi C [.int q18.1, .int q19.1] [] (m_J9_min_7cf53 z.l C.inj q18.1 q19.1 q19.2) ms_J9_min_7cf53 lk_X4_102 rfl rfl (Nat.le_of_ble_eq_true rfl) ⟨Nat.le_of_ble_eq_true rfl, Nat.le_of_ble_eq_true rfl⟩ dX4_shared_46 (fun q20 => ?_)
  exact rx_iret C dX4_shared_49
set_option maxRecDepth 100000 in
set_option maxHeartbeats 4000000 in
theorem w_X4_shared_e {α : Nat → Nat} {D : va_G} {cA : Nat → ClassId} {z : Cz} (C : CX shX α D cA z RX4 cX4_shared 5 (some .int) 2 45) (r0 : Nat) (hr0 : isLand r0) (x1 : Int32) (x2 : Int32) (σ : St) : RX emI shX α D cA z 5 σ 0 [(0, .ref (α r0)), (1, .int x1), (2, .int x2)] [] (f_X4_shared r0 x1 x2 σ) := by
  unfold f_X4_shared
  refine rx_aload_n C 0 dX4_shared_0 rfl rfl ?_
  refine rx_getC C (k := 1) (ld_sh hr0) fc_X4 (by decide) (r0 + 4) rfl lk_X4_20 dX4_shared_1 ?_
  refine rx_iload_n C 1 dX4_shared_4 rfl rfl ?_
  refine rx_callVi C [.int x1] [] (m_X8_name z.l C.inj (r0 + 4) (ld_4 hr0) x1 σ) mv_X8_name lk_X4_75 (ro_sh (ld_4 hr0)) rfl rfl rfl (Nat.le_of_ble_eq_true rfl) ⟨Nat.le_of_ble_eq_true rfl, Nat.le_of_ble_eq_true rfl⟩ dX4_shared_5 (fun q11 => ?_)
  refine rx_istore_n C [(3, .int q11.1), (0, .ref (α r0)), (1, .int x1), (2, .int x2)] dX4_shared_8 rfl (by decide) rfl ?_
  refine rx_aload_n C 1 dX4_shared_9 rfl rfl ?_
  refine rx_getC C (k := 1) (ld_sh hr0) fc_X4 (by decide) (r0 + 4) rfl lk_X4_20 dX4_shared_10 ?_
  refine rx_iload_n C 3 dX4_shared_13 rfl rfl ?_
  refine rx_callVi C [.int x2] [] (m_X8_name z.l C.inj (r0 + 4) (ld_4 hr0) x2 q11.2) mv_X8_name lk_X4_75 (ro_sh (ld_4 hr0)) rfl rfl rfl (Nat.le_of_ble_eq_true rfl) ⟨Nat.le_of_ble_eq_true rfl, Nat.le_of_ble_eq_true rfl⟩ dX4_shared_14 (fun q12 => ?_)
  refine rx_istore C [(4, .int q12.1), (3, .int q11.1), (0, .ref (α r0)), (1, .int x1), (2, .int x2)] dX4_shared_17 (by decide) rfl ?_
  refine rx_iload_n C 1 dX4_shared_19 rfl rfl ?_
  refine rx_iload C 0 dX4_shared_20 rfl ?_
  refine rx_callSi C [.int q11.1, .int q12.1] [] (m_X4_isWithin z.l C.inj q11.1 q12.1 q12.2) ms_X4_isWithin lk_X4_98 rfl rfl (Nat.le_of_ble_eq_true rfl) ⟨Nat.le_of_ble_eq_true rfl, Nat.le_of_ble_eq_true rfl⟩ dX4_shared_22 (fun q13 => ?_)
  refine rx_if_ne C (tgt := 37) dX4_shared_25 (by decide) (fun _ => ?_) (fun _ => ?_)
  · refine rx_iload C 0 dX4_shared_28 rfl ?_
    refine rx_iload_n C 1 dX4_shared_30 rfl rfl ?_
    refine rx_callSi C [.int q12.1, .int q11.1] [] (m_X4_isWithin z.l C.inj q12.1 q11.1 q13.2) ms_X4_isWithin lk_X4_98 rfl rfl (Nat.le_of_ble_eq_true rfl) ⟨Nat.le_of_ble_eq_true rfl, Nat.le_of_ble_eq_true rfl⟩ dX4_shared_31 (fun q14 => ?_)
    refine rx_if_eq C (tgt := 50) dX4_shared_34 (by decide) (fun _ => ?_) (fun _ => ?_)
    · refine rx_iload_n C 1 dX4_shared_50 rfl rfl ?_
      refine rx_iload C 0 dX4_shared_51 rfl ?_
      refine rx_callSi C [.int q11.1, .int q12.1] [] (m_X4_joint z.l C.inj q11.1 q12.1 q14.2) ms_X4_joint lk_X4_107 rfl rfl (Nat.le_of_ble_eq_true rfl) ⟨Nat.le_of_ble_eq_true rfl, Nat.le_of_ble_eq_true rfl⟩ dX4_shared_53 (fun q15 => ?_)
      refine rx_iload C 0 dX4_shared_56 rfl ?_
      refine rx_iload_n C 1 dX4_shared_58 rfl rfl ?_
      refine rx_callSi C [.int q12.1, .int q11.1] [.int q15.1] (m_X4_joint z.l C.inj q12.1 q11.1 q15.2) ms_X4_joint lk_X4_107 rfl rfl (Nat.le_of_ble_eq_true rfl) ⟨Nat.le_of_ble_eq_true rfl, Nat.le_of_ble_eq_true rfl⟩ dX4_shared_59 (fun q16 => ?_)
      refine rx_callSi C [.int q15.1, .int q16.1] [] (m_J9_max_7cf53 z.l C.inj q15.1 q16.1 q16.2) ms_J9_max_7cf53 lk_X4_110 rfl rfl (Nat.le_of_ble_eq_true rfl) ⟨Nat.le_of_ble_eq_true rfl, Nat.le_of_ble_eq_true rfl⟩ dX4_shared_62 (fun q17 => ?_)
      exact rx_iret C dX4_shared_65
    · exact RX.loc (w_X4_shared_37 C r0 hr0 q11.1 q12.1 q14.2) [1, 0] rfl
  · exact RX.loc (w_X4_shared_37 C r0 hr0 q11.1 q12.1 q13.2) [1, 0] rfl
theorem m_X4_shared (l : Launch) {α : Nat → Nat} {D : va_G} {cA : Nat → ClassId} (hin : inj shX.length α) (r0 : Nat) (hr0 : isLand r0) (x1 : Int32) (x2 : Int32) (σ : St) : CT shX l yX4_shared cX4_shared 5 (some .int) 2 45 emI α D cA [.ref (α r0), .int x1, .int x2] σ (f_X4_shared r0 x1 x2 σ) := ct_of rfl (Nat.le_of_ble_eq_true rfl) hin (fun z _ C => w_X4_shared_e C r0 hr0 x1 x2 σ)
set_option maxRecDepth 100000 in
set_option maxHeartbeats 4000000 in
theorem w_X4_rowOunces_128 {α : Nat → Nat} {D : va_G} {cA : Nat → ClassId} {z : Cz} (C : CX shX α D cA z RX4 cX4_rowOunces 10 (some .int) 2 45) (r0 : Nat) (hr0 : isLand r0) (s1 : Int32) (s0 : Int32) (σ : St) : RX emI shX α D cA z 10 σ 128 [] [.int s1, .int s0] (f_X4_rowOunces_128 r0 s1 s0 σ) := by
  unfold f_X4_rowOunces_128
  refine rx_isub C dX4_rowOunces_128 ?_
  exact rx_iret C dX4_rowOunces_129
set_option maxRecDepth 100000 in
set_option maxHeartbeats 4000000 in
theorem w_X4_rowOunces_e {α : Nat → Nat} {D : va_G} {cA : Nat → ClassId} {z : Cz} (C : CX shX α D cA z RX4 cX4_rowOunces 10 (some .int) 2 45) (r0 : Nat) (hr0 : isLand r0) (x1 : Int32) (x2 : Int32) (σ : St) : RX emI shX α D cA z 10 σ 0 [(0, .ref (α r0)), (1, .int x1), (2, .int x2)] [] (f_X4_rowOunces r0 x1 x2 σ) := by
  unfold f_X4_rowOunces
  refine rx_aload_n C 0 dX4_rowOunces_0 rfl rfl ?_
  refine rx_getC C (k := 1) (ld_sh hr0) fc_X4 (by decide) (r0 + 4) rfl lk_X4_20 dX4_rowOunces_1 ?_
  refine rx_iload_n C 1 dX4_rowOunces_4 rfl rfl ?_
  refine rx_callVi C [.int x1] [] (m_X8_name z.l C.inj (r0 + 4) (ld_4 hr0) x1 σ) mv_X8_name lk_X4_75 (ro_sh (ld_4 hr0)) rfl rfl rfl (Nat.le_of_ble_eq_true rfl) ⟨Nat.le_of_ble_eq_true rfl, Nat.le_of_ble_eq_true rfl⟩ dX4_rowOunces_5 (fun q17 => ?_)
  refine rx_istore_n C [(3, .int q17.1), (0, .ref (α r0)), (1, .int x1), (2, .int x2)] dX4_rowOunces_8 rfl (by decide) rfl ?_
  refine rx_aload_n C 1 dX4_rowOunces_9 rfl rfl ?_
  refine rx_getC C (k := 1) (ld_sh hr0) fc_X4 (by decide) (r0 + 4) rfl lk_X4_20 dX4_rowOunces_10 ?_
  refine rx_iload_n C 3 dX4_rowOunces_13 rfl rfl ?_
  refine rx_callVi C [.int x2] [] (m_X8_name z.l C.inj (r0 + 4) (ld_4 hr0) x2 q17.2) mv_X8_name lk_X4_75 (ro_sh (ld_4 hr0)) rfl rfl rfl (Nat.le_of_ble_eq_true rfl) ⟨Nat.le_of_ble_eq_true rfl, Nat.le_of_ble_eq_true rfl⟩ dX4_rowOunces_14 (fun q18 => ?_)
  refine rx_istore C [(4, .int q18.1), (3, .int q17.1), (0, .ref (α r0)), (1, .int x1), (2, .int x2)] dX4_rowOunces_17 (by decide) rfl ?_
  refine rx_aload_n C 2 dX4_rowOunces_19 rfl rfl ?_
  refine rx_iload_n C 1 dX4_rowOunces_20 rfl rfl ?_
  refine rx_callVi C [.int q17.1] [] (m_X4_nameOunces z.l C.inj r0 hr0 q17.1 q18.2) mv_X4_nameOunces lk_X4_78 (ld_sh hr0) rfl rfl rfl (Nat.le_of_ble_eq_true rfl) ⟨Nat.le_of_ble_eq_true rfl, Nat.le_of_ble_eq_true rfl⟩ dX4_rowOunces_21 (fun q19 => ?_)
  refine rx_aload_n C 2 dX4_rowOunces_24 rfl rfl ?_
  refine rx_iload C 0 dX4_rowOunces_25 rfl ?_
  refine rx_callVi C [.int q18.1] [.int q19.1] (m_X4_nameOunces z.l C.inj r0 hr0 q18.1 q19.2) mv_X4_nameOunces lk_X4_78 (ld_sh hr0) rfl rfl rfl (Nat.le_of_ble_eq_true rfl) ⟨Nat.le_of_ble_eq_true rfl, Nat.le_of_ble_eq_true rfl⟩ dX4_rowOunces_27 (fun q20 => ?_)
  refine rx_iadd C dX4_rowOunces_30 ?_
  refine rx_lti (fun w21 => ?_)
  refine rx_istore C [(5, .int w21), (4, .int q18.1), (3, .int q17.1), (0, .ref (α r0)), (1, .int x1), (2, .int x2)] dX4_rowOunces_31 (by decide) rfl ?_
  refine rx_iload_n C 2 dX4_rowOunces_33 rfl rfl ?_
  refine rx_iload C 1 dX4_rowOunces_34 rfl ?_
  refine rx_callSi C [.int q17.1, .int q18.1] [] (m_X4_isWithin z.l C.inj q17.1 q18.1 q20.2) ms_X4_isWithin lk_X4_98 rfl rfl (Nat.le_of_ble_eq_true rfl) ⟨Nat.le_of_ble_eq_true rfl, Nat.le_of_ble_eq_true rfl⟩ dX4_rowOunces_36 (fun q22 => ?_)
  refine rx_if_eq C (tgt := 49) dX4_rowOunces_39 (by decide) (fun _ => ?_) (fun _ => ?_)
  · refine rx_iload C 1 dX4_rowOunces_49 rfl ?_
    refine rx_iload_n C 2 dX4_rowOunces_51 rfl rfl ?_
    refine rx_callSi C [.int q18.1, .int q17.1] [] (m_X4_isWithin z.l C.inj q18.1 q17.1 q22.2) ms_X4_isWithin lk_X4_98 rfl rfl (Nat.le_of_ble_eq_true rfl) ⟨Nat.le_of_ble_eq_true rfl, Nat.le_of_ble_eq_true rfl⟩ dX4_rowOunces_52 (fun q23 => ?_)
    refine rx_if_eq C (tgt := 64) dX4_rowOunces_55 (by decide) (fun _ => ?_) (fun _ => ?_)
    · refine rx_iload_n C 2 dX4_rowOunces_64 rfl rfl ?_
      refine rx_iload C 1 dX4_rowOunces_65 rfl ?_
      refine rx_callSi C [.int q17.1, .int q18.1] [] (m_X4_joint z.l C.inj q17.1 q18.1 q23.2) ms_X4_joint lk_X4_107 rfl rfl (Nat.le_of_ble_eq_true rfl) ⟨Nat.le_of_ble_eq_true rfl, Nat.le_of_ble_eq_true rfl⟩ dX4_rowOunces_67 (fun q24 => ?_)
      refine rx_istore C [(6, .int q24.1), (5, .int w21), (4, .int q18.1), (3, .int q17.1), (0, .ref (α r0)), (1, .int x1), (2, .int x2)] dX4_rowOunces_70 (by decide) rfl ?_
      refine rx_iload C 2 dX4_rowOunces_72 rfl ?_
      refine rx_iload_n C 3 dX4_rowOunces_74 rfl rfl ?_
      refine rx_callSi C [.int q18.1, .int q17.1] [] (m_X4_joint z.l C.inj q18.1 q17.1 q24.2) ms_X4_joint lk_X4_107 rfl rfl (Nat.le_of_ble_eq_true rfl) ⟨Nat.le_of_ble_eq_true rfl, Nat.le_of_ble_eq_true rfl⟩ dX4_rowOunces_75 (fun q25 => ?_)
      refine rx_istore C [(7, .int q25.1), (6, .int q24.1), (5, .int w21), (4, .int q18.1), (3, .int q17.1), (0, .ref (α r0)), (1, .int x1), (2, .int x2)] dX4_rowOunces_78 (by decide) rfl ?_
      refine rx_aload_n C 5 dX4_rowOunces_80 rfl rfl ?_
      refine rx_iload C 3 dX4_rowOunces_81 rfl ?_
      refine rx_iload C 1 dX4_rowOunces_83 rfl ?_
      refine rx_callSi C [.int q18.1, .int q24.1] [.ref (α r0)] (m_X4_start z.l C.inj q18.1 q24.1 q25.2) ms_X4_start lk_X4_113 rfl rfl (Nat.le_of_ble_eq_true rfl) ⟨Nat.le_of_ble_eq_true rfl, Nat.le_of_ble_eq_true rfl⟩ dX4_rowOunces_85 (fun q26 => ?_)
      refine rx_callVi C [.int q26.1] [] (m_X4_nameOunces z.l C.inj r0 hr0 q26.1 q26.2) mv_X4_nameOunces lk_X4_78 (ld_sh hr0) rfl rfl rfl (Nat.le_of_ble_eq_true rfl) ⟨Nat.le_of_ble_eq_true rfl, Nat.le_of_ble_eq_true rfl⟩ dX4_rowOunces_88 (fun q27 => ?_)
      refine rx_istore C [(8, .int q27.1), (7, .int q25.1), (6, .int q24.1), (5, .int w21), (4, .int q18.1), (3, .int q17.1), (0, .ref (α r0)), (1, .int x1), (2, .int x2)] dX4_rowOunces_91 (by decide) rfl ?_
      refine rx_aload_n C 6 dX4_rowOunces_93 rfl rfl ?_
      refine rx_iload_n C 5 dX4_rowOunces_94 rfl rfl ?_
      refine rx_iload C 1 dX4_rowOunces_95 rfl ?_
      refine rx_callSi C [.int q17.1, .int q25.1] [.ref (α r0)] (m_X4_start z.l C.inj q17.1 q25.1 q27.2) ms_X4_start lk_X4_113 rfl rfl (Nat.le_of_ble_eq_true rfl) ⟨Nat.le_of_ble_eq_true rfl, Nat.le_of_ble_eq_true rfl⟩ dX4_rowOunces_97 (fun q28 => ?_)
      refine rx_callVi C [.int q28.1] [] (m_X4_nameOunces z.l C.inj r0 hr0 q28.1 q28.2) mv_X4_nameOunces lk_X4_78 (ld_sh hr0) rfl rfl rfl (Nat.le_of_ble_eq_true rfl) ⟨Nat.le_of_ble_eq_true rfl, Nat.le_of_ble_eq_true rfl⟩ dX4_rowOunces_100 (fun q29 => ?_)
      refine rx_istore C [(9, .int q29.1), (8, .int q27.1), (7, .int q25.1), (6, .int q24.1), (5, .int w21), (4, .int q18.1), (3, .int q17.1), (0, .ref (α r0)), (1, .int x1), (2, .int x2)] dX4_rowOunces_103 (by decide) rfl ?_
      refine rx_iload C 3 dX4_rowOunces_105 rfl ?_
      refine rx_iload C 2 dX4_rowOunces_107 rfl ?_
      refine rx_icmp_eq C (tgt := 130) dX4_rowOunces_109 (by decide) (fun _ => ?_) (fun _ => ?_)
      · refine rx_iload C 4 dX4_rowOunces_130 rfl ?_
        refine rx_iload C 1 dX4_rowOunces_132 rfl ?_
        refine rx_iload C 0 dX4_rowOunces_134 rfl ?_
        refine rx_callSi C [.int q27.1, .int q29.1] [.int w21] (m_J9_max_7cf53 z.l C.inj q27.1 q29.1 q29.2) ms_J9_max_7cf53 lk_X4_110 rfl rfl (Nat.le_of_ble_eq_true rfl) ⟨Nat.le_of_ble_eq_true rfl, Nat.le_of_ble_eq_true rfl⟩ dX4_rowOunces_136 (fun q30 => ?_)
        refine rx_isub C dX4_rowOunces_139 ?_
        exact rx_iret C dX4_rowOunces_140
      · refine rx_iload C 4 dX4_rowOunces_112 rfl ?_
        refine rx_iload C 3 dX4_rowOunces_114 rfl ?_
        refine rx_iload C 2 dX4_rowOunces_116 rfl ?_
        refine rx_icmp_le C (tgt := 126) dX4_rowOunces_118 (by decide) (fun _ => ?_) (fun _ => ?_)
        · refine rx_iload C 0 dX4_rowOunces_126 rfl ?_
          exact RX.loc (w_X4_rowOunces_128 C r0 hr0 q29.1 w21 q29.2) [] rfl
        · refine rx_iload C 1 dX4_rowOunces_121 rfl ?_
          refine rx_goto C (tgt := 128) dX4_rowOunces_123 (by decide) ?_
          exact RX.loc (w_X4_rowOunces_128 C r0 hr0 q27.1 w21 q29.2) [] rfl
    · refine rx_aload_n C 3 dX4_rowOunces_58 rfl rfl ?_
      refine rx_iload_n C 2 dX4_rowOunces_59 rfl rfl ?_
      refine rx_callVi C [.int q17.1] [] (m_X4_nameOunces z.l C.inj r0 hr0 q17.1 q23.2) mv_X4_nameOunces lk_X4_78 (ld_sh hr0) rfl rfl rfl (Nat.le_of_ble_eq_true rfl) ⟨Nat.le_of_ble_eq_true rfl, Nat.le_of_ble_eq_true rfl⟩ dX4_rowOunces_60 (fun q31 => ?_)
      exact rx_iret C dX4_rowOunces_63
  · refine rx_aload_n C 3 dX4_rowOunces_42 rfl rfl ?_
    refine rx_iload C 1 dX4_rowOunces_43 rfl ?_
    refine rx_callVi C [.int q18.1] [] (m_X4_nameOunces z.l C.inj r0 hr0 q18.1 q22.2) mv_X4_nameOunces lk_X4_78 (ld_sh hr0) rfl rfl rfl (Nat.le_of_ble_eq_true rfl) ⟨Nat.le_of_ble_eq_true rfl, Nat.le_of_ble_eq_true rfl⟩ dX4_rowOunces_45 (fun q32 => ?_)
    exact rx_iret C dX4_rowOunces_48
theorem m_X4_rowOunces (l : Launch) {α : Nat → Nat} {D : va_G} {cA : Nat → ClassId} (hin : inj shX.length α) (r0 : Nat) (hr0 : isLand r0) (x1 : Int32) (x2 : Int32) (σ : St) : CT shX l yX4_rowOunces cX4_rowOunces 10 (some .int) 2 45 emI α D cA [.ref (α r0), .int x1, .int x2] σ (f_X4_rowOunces r0 x1 x2 σ) := ct_of rfl (Nat.le_of_ble_eq_true rfl) hin (fun z _ C => w_X4_rowOunces_e C r0 hr0 x1 x2 σ)
set_option maxRecDepth 100000 in
set_option maxHeartbeats 4000000 in
theorem w_X6_fail_17 {α : Nat → Nat} {D : va_G} {cA : Nat → ClassId} {z : Cz} (C : CX shX α D cA z RX6 cX6_fail 3 (some .boolean) 0 0) (σ : St) : RX emI shX α D cA z 3 σ 17 [] [] (f_X6_fail_17 σ) := by
  unfold f_X6_fail_17
  refine rx_iconst C dX6_fail_17 ic_0 ?_
  exact rx_zretC C dX6_fail_18 rfl
set_option maxRecDepth 100000 in
set_option maxHeartbeats 4000000 in
theorem w_X6_fail_e {α : Nat → Nat} {D : va_G} {cA : Nat → ClassId} {z : Cz} (C : CX shX α D cA z RX6 cX6_fail 3 (some .boolean) 0 0) (x1 : Int32) (x2 : Int32) (σ : St) : RX emI shX α D cA z 3 σ 0 [(0, .ref (α 3)), (1, .int x1), (2, .int x2)] [] (f_X6_fail x1 x2 σ) := by
  unfold f_X6_fail
  refine rx_aload_n C 0 dX6_fail_0 rfl rfl ?_
  refine rx_getI C (k := 8) sx_3 fc_X6 (by decide) rfl lk_X6_55 dX6_fail_1 ?_
  refine rx_if_ne C (tgt := 17) dX6_fail_4 (by decide) (fun _ => ?_) (fun _ => ?_)
  · refine rx_aload_n C 0 dX6_fail_7 rfl rfl ?_
    refine rx_iload_n C 1 dX6_fail_8 rfl rfl ?_
    refine rx_putI C (k := 8) sx_3 fc_X6 (by decide) rfl lk_X6_55 rfl ⟨rfl, rfl⟩ dX6_fail_9 ?_
    refine rx_lts (fun σ3 => ?_)
    refine rx_aload_n C 0 dX6_fail_12 rfl rfl ?_
    refine rx_iload_n C 2 dX6_fail_13 rfl rfl ?_
    refine rx_putI C (k := 9) sx_3 fc_X6 (by decide) rfl lk_X6_58 rfl ⟨rfl, rfl⟩ dX6_fail_14 ?_
    refine rx_lts (fun σ4 => ?_)
    exact RX.loc (w_X6_fail_17 C σ4) [] rfl
  · exact RX.loc (w_X6_fail_17 C σ) [] rfl
theorem m_X6_fail (l : Launch) {α : Nat → Nat} {D : va_G} {cA : Nat → ClassId} (hin : inj shX.length α) (x1 : Int32) (x2 : Int32) (σ : St) : CT shX l yX6_fail cX6_fail 3 (some .boolean) 0 0 emI α D cA [.ref (α 3), .int x1, .int x2] σ (f_X6_fail x1 x2 σ) := ct_of rfl (Nat.le_of_ble_eq_true rfl) hin (fun z _ C => w_X6_fail_e C x1 x2 σ)
set_option maxRecDepth 100000 in
set_option maxHeartbeats 4000000 in
theorem w_X6_failHere_e {α : Nat → Nat} {D : va_G} {cA : Nat → ClassId} {z : Cz} (C : CX shX α D cA z RX6 cX6_failHere 2 (some .boolean) 1 22) (x1 : Int32) (σ : St) : RX emI shX α D cA z 2 σ 0 [(0, .ref (α 3)), (1, .int x1)] [] (f_X6_failHere x1 σ) := by
  unfold f_X6_failHere
  refine rx_aload_n C 0 dX6_failHere_0 rfl rfl ?_
  refine rx_iload_n C 1 dX6_failHere_1 rfl rfl ?_
  refine rx_aload_n C 0 dX6_failHere_2 rfl rfl ?_
  refine rx_getI C (k := 4) sx_3 fc_X6 (by decide) rfl lk_X6_48 dX6_failHere_3 ?_
  refine rx_callVi C [.int x1, .int (gI σ 3 4)] [] (m_X6_fail z.l C.inj x1 (gI σ 3 4) σ) mv_X6_fail lk_X6_61 sx_3 rfl rfl rfl (Nat.le_of_ble_eq_true rfl) ⟨Nat.le_of_ble_eq_true rfl, Nat.le_of_ble_eq_true rfl⟩ dX6_failHere_6 (fun q2 => ?_)
  exact rx_zret C dX6_failHere_9
theorem m_X6_failHere (l : Launch) {α : Nat → Nat} {D : va_G} {cA : Nat → ClassId} (hin : inj shX.length α) (x1 : Int32) (σ : St) : CT shX l yX6_failHere cX6_failHere 2 (some .boolean) 1 22 emI α D cA [.ref (α 3), .int x1] σ (f_X6_failHere x1 σ) := ct_of rfl (Nat.le_of_ble_eq_true rfl) hin (fun z _ C => w_X6_failHere_e C x1 σ)
set_option maxRecDepth 100000 in
set_option maxHeartbeats 4000000 in
theorem w_X6_kindOf_35 {α : Nat → Nat} {D : va_G} {cA : Nat → ClassId} {z : Cz} (C : CX shX α D cA z RX6 cX6_kindOf 1 (some .int) 0 0) (s0 : Int32) (σ : St) : RX emI shX α D cA z 1 σ 35 [] [.int s0] (f_X6_kindOf_35 s0 σ) := by
  unfold f_X6_kindOf_35
  exact rx_iret C dX6_kindOf_35
set_option maxRecDepth 100000 in
set_option maxHeartbeats 4000000 in
theorem w_X6_kindOf_34 {α : Nat → Nat} {D : va_G} {cA : Nat → ClassId} {z : Cz} (C : CX shX α D cA z RX6 cX6_kindOf 1 (some .int) 0 0) (x0 : Int32) (σ : St) : RX emI shX α D cA z 1 σ 34 [(0, .int x0)] [] (f_X6_kindOf_34 x0 σ) := by
  unfold f_X6_kindOf_34
  refine rx_iload_n C 0 dX6_kindOf_34 rfl rfl ?_
  exact RX.loc (w_X6_kindOf_35 C x0 σ) [] rfl
set_option maxRecDepth 100000 in
set_option maxHeartbeats 4000000 in
theorem w_X6_kindOf_16 {α : Nat → Nat} {D : va_G} {cA : Nat → ClassId} {z : Cz} (C : CX shX α D cA z RX6 cX6_kindOf 1 (some .int) 0 0) (x0 : Int32) (σ : St) : RX emI shX α D cA z 1 σ 16 [(0, .int x0)] [] (f_X6_kindOf_16 x0 σ) := by
  unfold f_X6_kindOf_16
  refine rx_iload_n C 0 dX6_kindOf_16 rfl rfl ?_
  refine rx_bipush C dX6_kindOf_17 bp_48 ?_
  refine rx_icmp_lt C (tgt := 34) dX6_kindOf_19 (by decide) (fun _ => ?_) (fun _ => ?_)
  · exact RX.loc (w_X6_kindOf_34 C x0 σ) [0] rfl
  · refine rx_iload_n C 0 dX6_kindOf_22 rfl rfl ?_
    refine rx_bipush C dX6_kindOf_23 bp_57 ?_
    refine rx_icmp_gt C (tgt := 34) dX6_kindOf_25 (by decide) (fun _ => ?_) (fun _ => ?_)
    · exact RX.loc (w_X6_kindOf_34 C x0 σ) [0] rfl
    · refine rx_sipush C dX6_kindOf_28 sp_301 ?_
      refine rx_goto C (tgt := 35) dX6_kindOf_31 (by decide) ?_
      exact RX.loc (w_X6_kindOf_35 C (301 : Int32) σ) [] rfl
set_option maxRecDepth 100000 in
set_option maxHeartbeats 4000000 in
theorem w_X6_kindOf_e {α : Nat → Nat} {D : va_G} {cA : Nat → ClassId} {z : Cz} (C : CX shX α D cA z RX6 cX6_kindOf 1 (some .int) 0 0) (x0 : Int32) (σ : St) : RX emI shX α D cA z 1 σ 0 [(0, .int x0)] [] (f_X6_kindOf x0 σ) := by
  unfold f_X6_kindOf
  refine rx_iload_n C 0 dX6_kindOf_0 rfl rfl ?_
  refine rx_bipush C dX6_kindOf_1 bp_97 ?_
  refine rx_icmp_lt C (tgt := 16) dX6_kindOf_3 (by decide) (fun _ => ?_) (fun _ => ?_)
  · exact RX.loc (w_X6_kindOf_16 C x0 σ) [0] rfl
  · refine rx_iload_n C 0 dX6_kindOf_6 rfl rfl ?_
    refine rx_bipush C dX6_kindOf_7 bp_122 ?_
    refine rx_icmp_gt C (tgt := 16) dX6_kindOf_9 (by decide) (fun _ => ?_) (fun _ => ?_)
    · exact RX.loc (w_X6_kindOf_16 C x0 σ) [0] rfl
    · refine rx_sipush C dX6_kindOf_12 sp_300 ?_
      exact rx_iret C dX6_kindOf_15
theorem m_X6_kindOf (l : Launch) {α : Nat → Nat} {D : va_G} {cA : Nat → ClassId} (hin : inj shX.length α) (x0 : Int32) (σ : St) : CT shX l yX6_kindOf cX6_kindOf 1 (some .int) 0 0 emI α D cA [.int x0] σ (f_X6_kindOf x0 σ) := ct_of rfl (Nat.le_of_ble_eq_true rfl) hin (fun z _ C => w_X6_kindOf_e C x0 σ)
set_option maxRecDepth 100000 in
set_option maxHeartbeats 4000000 in
theorem w_X6_readNumber_96 {α : Nat → Nat} {D : va_G} {cA : Nat → ClassId} {z : Cz} (C : CX shX α D cA z RX6 cX6_readNumber 1 (some .boolean) 0 0) (σ : St) : RX emI shX α D cA z 1 σ 96 [] [] (f_X6_readNumber_96 σ) := by
  unfold f_X6_readNumber_96
  refine rx_iconst C dX6_readNumber_96 ic_1 ?_
  exact rx_zretC C dX6_readNumber_97 rfl
set_option maxRecDepth 100000 in
set_option maxHeartbeats 4000000 in
theorem w_X6_readNumber_5 {α : Nat → Nat} {D : va_G} {cA : Nat → ClassId} {z : Cz} (C : CX shX α D cA z RX6 cX6_readNumber 1 (some .boolean) 0 0) : ∀ (n : Nat) (σ : St), RX emI shX α D cA z 1 σ 5 [(0, .ref (α 3))] [] (f_X6_readNumber_5 n σ) := by
  intro n
  induction n with
  | zero => intros; exact rx_none
  | succ n hk_5 =>
    intro σ
    rw [f_X6_readNumber_5.eq_2]
    refine rx_aload_n C 0 dX6_readNumber_5 rfl rfl ?_
    refine rx_getI C (k := 3) sx_3 fc_X6 (by decide) rfl lk_X6_45 dX6_readNumber_6 ?_
    refine rx_aload_n C 0 dX6_readNumber_9 rfl rfl ?_
    refine rx_getI C (k := 2) sx_3 fc_X6 (by decide) rfl lk_X6_42 dX6_readNumber_10 ?_
    refine rx_icmp_ge C (tgt := 96) dX6_readNumber_13 (by decide) (fun _ => ?_) (fun _ => ?_)
    · exact RX.loc (w_X6_readNumber_96 C σ) [] rfl
    · refine rx_aload_n C 0 dX6_readNumber_16 rfl rfl ?_
      refine rx_getC C (k := 0) sx_3 fc_X6 (by decide) 1 rfl lk_X6_11 dX6_readNumber_17 ?_
      refine rx_aload_n C 0 dX6_readNumber_20 rfl rfl ?_
      refine rx_getI C (k := 3) sx_3 fc_X6 (by decide) rfl lk_X6_45 dX6_readNumber_21 ?_
      refine rx_iald C (n := 1600) sx_1 dX6_readNumber_24 (fun _ => ?_)
      refine rx_bipush C dX6_readNumber_25 bp_48 ?_
      refine rx_icmp_lt C (tgt := 96) dX6_readNumber_27 (by decide) (fun _ => ?_) (fun _ => ?_)
      · exact RX.loc (w_X6_readNumber_96 C σ) [] rfl
      · refine rx_aload_n C 0 dX6_readNumber_30 rfl rfl ?_
        refine rx_getC C (k := 0) sx_3 fc_X6 (by decide) 1 rfl lk_X6_11 dX6_readNumber_31 ?_
        refine rx_aload_n C 0 dX6_readNumber_34 rfl rfl ?_
        refine rx_getI C (k := 3) sx_3 fc_X6 (by decide) rfl lk_X6_45 dX6_readNumber_35 ?_
        refine rx_iald C (n := 1600) sx_1 dX6_readNumber_38 (fun _ => ?_)
        refine rx_bipush C dX6_readNumber_39 bp_57 ?_
        refine rx_icmp_gt C (tgt := 96) dX6_readNumber_41 (by decide) (fun _ => ?_) (fun _ => ?_)
        · exact RX.loc (w_X6_readNumber_96 C σ) [] rfl
        · refine rx_aload_n C 0 dX6_readNumber_44 rfl rfl ?_
          refine rx_getI C (k := 3) sx_3 fc_X6 (by decide) rfl lk_X6_45 dX6_readNumber_45 ?_
          refine rx_aload_n C 0 dX6_readNumber_48 rfl rfl ?_
          refine rx_getI C (k := 4) sx_3 fc_X6 (by decide) rfl lk_X6_48 dX6_readNumber_49 ?_
          refine rx_isub C dX6_readNumber_52 ?_
          refine rx_iconst C dX6_readNumber_53 ic_4 ?_
          refine rx_icmp_lt C (tgt := 59) dX6_readNumber_54 (by decide) (fun _ => ?_) (fun _ => ?_)
          · refine rx_aload_n C 0 dX6_readNumber_59 rfl rfl ?_
            refine rx_aload_n C 0 dX6_readNumber_60 rfl rfl ?_
            refine rx_getI C (k := 6) sx_3 fc_X6 (by decide) rfl lk_X6_79 dX6_readNumber_61 ?_
            refine rx_bipush C dX6_readNumber_64 bp_10 ?_
            refine rx_imul C dX6_readNumber_66 ?_
            refine rx_aload_n C 0 dX6_readNumber_67 rfl rfl ?_
            refine rx_getC C (k := 0) sx_3 fc_X6 (by decide) 1 rfl lk_X6_11 dX6_readNumber_68 ?_
            refine rx_aload_n C 0 dX6_readNumber_71 rfl rfl ?_
            refine rx_getI C (k := 3) sx_3 fc_X6 (by decide) rfl lk_X6_45 dX6_readNumber_72 ?_
            refine rx_iald C (n := 1600) sx_1 dX6_readNumber_75 (fun _ => ?_)
            refine rx_iadd C dX6_readNumber_76 ?_
            refine rx_bipush C dX6_readNumber_77 bp_48 ?_
            refine rx_isub C dX6_readNumber_79 ?_
            refine rx_putI C (k := 6) sx_3 fc_X6 (by decide) rfl lk_X6_79 rfl ⟨rfl, rfl⟩ dX6_readNumber_80 ?_
            refine rx_lts (fun σ5 => ?_)
            refine rx_aload_n C 0 dX6_readNumber_83 rfl rfl ?_
            refine rx_dup C dX6_readNumber_84 rfl ?_
            refine rx_getI C (k := 3) sx_3 fc_X6 (by decide) rfl lk_X6_45 dX6_readNumber_85 ?_
            refine rx_iconst C dX6_readNumber_88 ic_1 ?_
            refine rx_iadd C dX6_readNumber_89 ?_
            refine rx_putI C (k := 3) sx_3 fc_X6 (by decide) rfl lk_X6_45 rfl ⟨rfl, rfl⟩ dX6_readNumber_90 ?_
            refine rx_lts (fun σ6 => ?_)
            refine rx_goto C (tgt := 5) dX6_readNumber_93 (by decide) ?_
            exact RX.loc (hk_5 σ6) [0] rfl
          · refine rx_iconst C dX6_readNumber_57 ic_0 ?_
            exact rx_zretC C dX6_readNumber_58 rfl
set_option maxRecDepth 100000 in
set_option maxHeartbeats 4000000 in
theorem w_X6_readNumber_e {α : Nat → Nat} {D : va_G} {cA : Nat → ClassId} {z : Cz} (C : CX shX α D cA z RX6 cX6_readNumber 1 (some .boolean) 0 0) (σ : St) : RX emI shX α D cA z 1 σ 0 [(0, .ref (α 3))] [] (f_X6_readNumber σ) := by
  unfold f_X6_readNumber
  refine rx_aload_n C 0 dX6_readNumber_0 rfl rfl ?_
  refine rx_iconst C dX6_readNumber_1 ic_0 ?_
  refine rx_putI C (k := 6) sx_3 fc_X6 (by decide) rfl lk_X6_79 rfl ⟨rfl, rfl⟩ dX6_readNumber_2 ?_
  refine rx_lts (fun σ4 => ?_)
  exact RX.loc (w_X6_readNumber_5 C FU σ4) [0] rfl
theorem m_X6_readNumber (l : Launch) {α : Nat → Nat} {D : va_G} {cA : Nat → ClassId} (hin : inj shX.length α) (σ : St) : CT shX l yX6_readNumber cX6_readNumber 1 (some .boolean) 0 0 emI α D cA [.ref (α 3)] σ (f_X6_readNumber σ) := ct_of rfl (Nat.le_of_ble_eq_true rfl) hin (fun z _ C => w_X6_readNumber_e C σ)
set_option maxRecDepth 100000 in
set_option maxHeartbeats 4000000 in
theorem w_X6_readWord_132 {α : Nat → Nat} {D : va_G} {cA : Nat → ClassId} {z : Cz} (C : CX shX α D cA z RX6 cX6_readWord 2 (some .boolean) 0 0) (k_104 : Int32 → St → Option (Int32 × St)) (hk_104 : ∀ (x1 : Int32) (σ : St), RX emI shX α D cA z 2 σ 104 [(0, .ref (α 3)), (1, .int x1)] [] (k_104 x1 σ)) (x1 : Int32) (σ : St) : RX emI shX α D cA z 2 σ 132 [(0, .ref (α 3)), (1, .int x1)] [] (f_X6_readWord_132 k_104 x1 σ) := by
  unfold f_X6_readWord_132
  refine rx_iinc C (k0 := 1) (v := x1 + (1 : Int32)) [(1, .int (x1 + (1 : Int32))), (0, .ref (α 3))] dX6_readWord_132 rfl (congrArg _ ic_1) (by decide) rfl ?_
  refine rx_goto C (tgt := 104) dX6_readWord_135 (by decide) ?_
  exact RX.loc (hk_104 (x1 + (1 : Int32)) σ) [1, 0] rfl
set_option maxRecDepth 100000 in
set_option maxHeartbeats 4000000 in
theorem w_X6_readWord_104 {α : Nat → Nat} {D : va_G} {cA : Nat → ClassId} {z : Cz} (C : CX shX α D cA z RX6 cX6_readWord 2 (some .boolean) 0 0) : ∀ (n : Nat) (x1 : Int32) (σ : St), RX emI shX α D cA z 2 σ 104 [(0, .ref (α 3)), (1, .int x1)] [] (f_X6_readWord_104 n x1 σ) := by
  intro n
  induction n with
  | zero => intros; exact rx_none
  | succ n hk_104 =>
    intro x1 σ
    rw [f_X6_readWord_104.eq_2]
    refine rx_iload_n C 1 dX6_readWord_104 rfl rfl ?_
    refine rx_bipush C dX6_readWord_105 bp_23 ?_
    refine rx_icmp_ge C (tgt := 138) dX6_readWord_107 (by decide) (fun _ => ?_) (fun _ => ?_)
    · refine rx_iconst C dX6_readWord_138 ic_1 ?_
      exact rx_zretC C dX6_readWord_139 rfl
    · refine rx_aload_n C 0 dX6_readWord_110 rfl rfl ?_
      refine rx_getC C (k := 1) sx_3 fc_X6 (by decide) 4 rfl lk_X6_15 dX6_readWord_111 ?_
      refine rx_iload_n C 1 dX6_readWord_114 rfl rfl ?_
      refine rx_iald C (n := 23) sx_4 dX6_readWord_115 (fun _ => ?_)
      refine rx_aload_n C 0 dX6_readWord_116 rfl rfl ?_
      refine rx_getI C (k := 6) sx_3 fc_X6 (by decide) rfl lk_X6_79 dX6_readWord_117 ?_
      refine rx_icmp_ne C (tgt := 132) dX6_readWord_120 (by decide) (fun _ => ?_) (fun _ => ?_)
      · refine rx_aload_n C 0 dX6_readWord_123 rfl rfl ?_
        refine rx_sipush C dX6_readWord_124 sp_400 ?_
        refine rx_iload_n C 1 dX6_readWord_127 rfl rfl ?_
        refine rx_iadd C dX6_readWord_128 ?_
        refine rx_putI C (k := 5) sx_3 fc_X6 (by decide) rfl lk_X6_65 rfl ⟨rfl, rfl⟩ dX6_readWord_129 ?_
        refine rx_lts (fun σ7 => ?_)
        exact RX.loc (w_X6_readWord_132 C (f_X6_readWord_104 n) hk_104 x1 σ7) [0, 1] rfl
      · exact RX.loc (w_X6_readWord_132 C (f_X6_readWord_104 n) hk_104 x1 σ) [0, 1] rfl
set_option maxRecDepth 100000 in
set_option maxHeartbeats 4000000 in
theorem w_X6_readWord_102 {α : Nat → Nat} {D : va_G} {cA : Nat → ClassId} {z : Cz} (C : CX shX α D cA z RX6 cX6_readWord 2 (some .boolean) 0 0) (σ : St) : RX emI shX α D cA z 2 σ 102 [(0, .ref (α 3))] [] (f_X6_readWord_102 σ) := by
  unfold f_X6_readWord_102
  refine rx_iconst C dX6_readWord_102 ic_0 ?_
  refine rx_istore_n C [(1, .int (0 : Int32)), (0, .ref (α 3))] dX6_readWord_103 rfl (by decide) rfl ?_
  exact RX.loc (w_X6_readWord_104 C FU (0 : Int32) σ) [1, 0] rfl
set_option maxRecDepth 100000 in
set_option maxHeartbeats 4000000 in
theorem w_X6_readWord_5 {α : Nat → Nat} {D : va_G} {cA : Nat → ClassId} {z : Cz} (C : CX shX α D cA z RX6 cX6_readWord 2 (some .boolean) 0 0) : ∀ (n : Nat) (σ : St), RX emI shX α D cA z 2 σ 5 [(0, .ref (α 3))] [] (f_X6_readWord_5 n σ) := by
  intro n
  induction n with
  | zero => intros; exact rx_none
  | succ n hk_5 =>
    intro σ
    rw [f_X6_readWord_5.eq_2]
    refine rx_aload_n C 0 dX6_readWord_5 rfl rfl ?_
    refine rx_getI C (k := 3) sx_3 fc_X6 (by decide) rfl lk_X6_45 dX6_readWord_6 ?_
    refine rx_aload_n C 0 dX6_readWord_9 rfl rfl ?_
    refine rx_getI C (k := 2) sx_3 fc_X6 (by decide) rfl lk_X6_42 dX6_readWord_10 ?_
    refine rx_icmp_ge C (tgt := 102) dX6_readWord_13 (by decide) (fun _ => ?_) (fun _ => ?_)
    · exact RX.loc (w_X6_readWord_102 C σ) [0] rfl
    · refine rx_aload_n C 0 dX6_readWord_16 rfl rfl ?_
      refine rx_getC C (k := 0) sx_3 fc_X6 (by decide) 1 rfl lk_X6_11 dX6_readWord_17 ?_
      refine rx_aload_n C 0 dX6_readWord_20 rfl rfl ?_
      refine rx_getI C (k := 3) sx_3 fc_X6 (by decide) rfl lk_X6_45 dX6_readWord_21 ?_
      refine rx_iald C (n := 1600) sx_1 dX6_readWord_24 (fun _ => ?_)
      refine rx_bipush C dX6_readWord_25 bp_97 ?_
      refine rx_icmp_lt C (tgt := 102) dX6_readWord_27 (by decide) (fun _ => ?_) (fun _ => ?_)
      · exact RX.loc (w_X6_readWord_102 C σ) [0] rfl
      · refine rx_aload_n C 0 dX6_readWord_30 rfl rfl ?_
        refine rx_getC C (k := 0) sx_3 fc_X6 (by decide) 1 rfl lk_X6_11 dX6_readWord_31 ?_
        refine rx_aload_n C 0 dX6_readWord_34 rfl rfl ?_
        refine rx_getI C (k := 3) sx_3 fc_X6 (by decide) rfl lk_X6_45 dX6_readWord_35 ?_
        refine rx_iald C (n := 1600) sx_1 dX6_readWord_38 (fun _ => ?_)
        refine rx_bipush C dX6_readWord_39 bp_122 ?_
        refine rx_icmp_gt C (tgt := 102) dX6_readWord_41 (by decide) (fun _ => ?_) (fun _ => ?_)
        · exact RX.loc (w_X6_readWord_102 C σ) [0] rfl
        · refine rx_aload_n C 0 dX6_readWord_44 rfl rfl ?_
          refine rx_getI C (k := 3) sx_3 fc_X6 (by decide) rfl lk_X6_45 dX6_readWord_45 ?_
          refine rx_aload_n C 0 dX6_readWord_48 rfl rfl ?_
          refine rx_getI C (k := 4) sx_3 fc_X6 (by decide) rfl lk_X6_48 dX6_readWord_49 ?_
          refine rx_isub C dX6_readWord_52 ?_
          refine rx_lti (fun w8 => ?_)
          refine rx_istore_n C [(1, .int w8), (0, .ref (α 3))] dX6_readWord_53 rfl (by decide) rfl ?_
          refine rx_iload_n C 0 dX6_readWord_54 rfl rfl ?_
          refine rx_bipush C dX6_readWord_55 bp_6 ?_
          refine rx_icmp_lt C (tgt := 62) dX6_readWord_57 (by decide) (fun _ => ?_) (fun _ => ?_)
          · refine rx_aload_n C 1 dX6_readWord_62 rfl rfl ?_
            refine rx_dup C dX6_readWord_63 rfl ?_
            refine rx_getI C (k := 6) sx_3 fc_X6 (by decide) rfl lk_X6_79 dX6_readWord_64 ?_
            refine rx_aload_n C 1 dX6_readWord_67 rfl rfl ?_
            refine rx_getC C (k := 0) sx_3 fc_X6 (by decide) 1 rfl lk_X6_11 dX6_readWord_68 ?_
            refine rx_aload_n C 1 dX6_readWord_71 rfl rfl ?_
            refine rx_getI C (k := 3) sx_3 fc_X6 (by decide) rfl lk_X6_45 dX6_readWord_72 ?_
            refine rx_iald C (n := 1600) sx_1 dX6_readWord_75 (fun _ => ?_)
            refine rx_bipush C dX6_readWord_76 bp_97 ?_
            refine rx_isub C dX6_readWord_78 ?_
            refine rx_iconst C dX6_readWord_79 ic_1 ?_
            refine rx_iadd C dX6_readWord_80 ?_
            refine rx_iload_n C 0 dX6_readWord_81 rfl rfl ?_
            refine rx_iconst C dX6_readWord_82 ic_5 ?_
            refine rx_imul C dX6_readWord_83 ?_
            refine rx_ishl C dX6_readWord_84 ?_
            refine rx_ior C dX6_readWord_85 ?_
            refine rx_putI C (k := 6) sx_3 fc_X6 (by decide) rfl lk_X6_79 rfl ⟨rfl, rfl⟩ dX6_readWord_86 ?_
            refine rx_lts (fun σ9 => ?_)
            refine rx_aload_n C 1 dX6_readWord_89 rfl rfl ?_
            refine rx_dup C dX6_readWord_90 rfl ?_
            refine rx_getI C (k := 3) sx_3 fc_X6 (by decide) rfl lk_X6_45 dX6_readWord_91 ?_
            refine rx_iconst C dX6_readWord_94 ic_1 ?_
            refine rx_iadd C dX6_readWord_95 ?_
            refine rx_putI C (k := 3) sx_3 fc_X6 (by decide) rfl lk_X6_45 rfl ⟨rfl, rfl⟩ dX6_readWord_96 ?_
            refine rx_lts (fun σ10 => ?_)
            refine rx_goto C (tgt := 5) dX6_readWord_99 (by decide) ?_
            exact RX.loc (hk_5 σ10) [1] rfl
          · refine rx_iconst C dX6_readWord_60 ic_0 ?_
            exact rx_zretC C dX6_readWord_61 rfl
set_option maxRecDepth 100000 in
set_option maxHeartbeats 4000000 in
theorem w_X6_readWord_e {α : Nat → Nat} {D : va_G} {cA : Nat → ClassId} {z : Cz} (C : CX shX α D cA z RX6 cX6_readWord 2 (some .boolean) 0 0) (σ : St) : RX emI shX α D cA z 2 σ 0 [(0, .ref (α 3))] [] (f_X6_readWord σ) := by
  unfold f_X6_readWord
  refine rx_aload_n C 0 dX6_readWord_0 rfl rfl ?_
  refine rx_iconst C dX6_readWord_1 ic_0 ?_
  refine rx_putI C (k := 6) sx_3 fc_X6 (by decide) rfl lk_X6_79 rfl ⟨rfl, rfl⟩ dX6_readWord_2 ?_
  refine rx_lts (fun σ6 => ?_)
  exact RX.loc (w_X6_readWord_5 C FU σ6) [0] rfl
theorem m_X6_readWord (l : Launch) {α : Nat → Nat} {D : va_G} {cA : Nat → ClassId} (hin : inj shX.length α) (σ : St) : CT shX l yX6_readWord cX6_readWord 2 (some .boolean) 0 0 emI α D cA [.ref (α 3)] σ (f_X6_readWord σ) := ct_of rfl (Nat.le_of_ble_eq_true rfl) hin (fun z _ C => w_X6_readWord_e C σ)
set_option maxRecDepth 100000 in
set_option maxHeartbeats 4000000 in
theorem w_X6_look_276 {α : Nat → Nat} {D : va_G} {cA : Nat → ClassId} {z : Cz} (C : CX shX α D cA z RX6 cX6_look 3 (some .int) 1 22) (s0 : Int32) (σ : St) : RX emI shX α D cA z 3 σ 276 [] [.int s0] (f_X6_look_276 s0 σ) := by
  unfold f_X6_look_276
  exact rx_iret C dX6_look_276
set_option maxRecDepth 100000 in
set_option maxHeartbeats 4000000 in
theorem w_X6_look_259 {α : Nat → Nat} {D : va_G} {cA : Nat → ClassId} {z : Cz} (C : CX shX α D cA z RX6 cX6_look 3 (some .int) 1 22) (σ : St) : RX emI shX α D cA z 3 σ 259 [(0, .ref (α 3))] [] (f_X6_look_259 σ) := by
  unfold f_X6_look_259
  refine rx_aload_n C 0 dX6_look_259 rfl rfl ?_
  refine rx_getI C (k := 8) sx_3 fc_X6 (by decide) rfl lk_X6_55 dX6_look_260 ?_
  refine rx_if_ne C (tgt := 273) dX6_look_263 (by decide) (fun _ => ?_) (fun _ => ?_)
  · refine rx_aload_n C 0 dX6_look_266 rfl rfl ?_
    refine rx_getI C (k := 5) sx_3 fc_X6 (by decide) rfl lk_X6_65 dX6_look_267 ?_
    refine rx_goto C (tgt := 276) dX6_look_270 (by decide) ?_
    exact RX.loc (w_X6_look_276 C (gI σ 3 5) σ) [] rfl
  · refine rx_sipush C dX6_look_273 sp_303 ?_
    exact RX.loc (w_X6_look_276 C (303 : Int32) σ) [] rfl
set_option maxRecDepth 100000 in
set_option maxHeartbeats 4000000 in
theorem w_X6_look_245 {α : Nat → Nat} {D : va_G} {cA : Nat → ClassId} {z : Cz} (C : CX shX α D cA z RX6 cX6_look 3 (some .int) 1 22) (x2 : Int32) (σ : St) : RX emI shX α D cA z 3 σ 245 [(0, .ref (α 3)), (2, .int x2)] [] (f_X6_look_245 x2 σ) := by
  unfold f_X6_look_245
  refine rx_iload_n C 1 dX6_look_245 rfl rfl ?_
  refine rx_if_ne C (tgt := 259) dX6_look_246 (by decide) (fun _ => ?_) (fun _ => ?_)
  · refine rx_aload_n C 0 dX6_look_249 rfl rfl ?_
    refine rx_iconst C dX6_look_250 ic_1 ?_
    refine rx_aload_n C 0 dX6_look_251 rfl rfl ?_
    refine rx_getI C (k := 3) sx_3 fc_X6 (by decide) rfl lk_X6_45 dX6_look_252 ?_
    refine rx_callVi C [.int (1 : Int32), .int (gI σ 3 3)] [] (m_X6_fail z.l C.inj (1 : Int32) (gI σ 3 3) σ) mv_X6_fail lk_X6_61 sx_3 rfl rfl rfl (Nat.le_of_ble_eq_true rfl) ⟨Nat.le_of_ble_eq_true rfl, Nat.le_of_ble_eq_true rfl⟩ dX6_look_255 (fun q15 => ?_)
    refine rx_pop C dX6_look_258 rfl ?_
    exact RX.loc (w_X6_look_259 C q15.2) [0] rfl
  · exact RX.loc (w_X6_look_259 C σ) [0] rfl
set_option maxRecDepth 100000 in
set_option maxHeartbeats 4000000 in
theorem w_X6_look_191 {α : Nat → Nat} {D : va_G} {cA : Nat → ClassId} {z : Cz} (C : CX shX α D cA z RX6 cX6_look 3 (some .int) 1 22) (s0 : Int32) (σ : St) : RX emI shX α D cA z 3 σ 191 [(0, .ref (α 3))] [.int s0] (f_X6_look_191 s0 σ) := by
  unfold f_X6_look_191
  refine rx_istore_n C [(2, .int s0), (0, .ref (α 3))] dX6_look_191 rfl (by decide) rfl ?_
  refine rx_goto C (tgt := 245) dX6_look_192 (by decide) ?_
  exact RX.loc (w_X6_look_245 C s0 σ) [1, 0] rfl
set_option maxRecDepth 100000 in
set_option maxHeartbeats 4000000 in
theorem w_X6_look_190 {α : Nat → Nat} {D : va_G} {cA : Nat → ClassId} {z : Cz} (C : CX shX α D cA z RX6 cX6_look 3 (some .int) 1 22) (σ : St) : RX emI shX α D cA z 3 σ 190 [(0, .ref (α 3))] [] (f_X6_look_190 σ) := by
  unfold f_X6_look_190
  refine rx_iconst C dX6_look_190 ic_0 ?_
  exact RX.loc (w_X6_look_191 C (0 : Int32) σ) [0] rfl
set_option maxRecDepth 100000 in
set_option maxHeartbeats 4000000 in
theorem w_X6_look_221 {α : Nat → Nat} {D : va_G} {cA : Nat → ClassId} {z : Cz} (C : CX shX α D cA z RX6 cX6_look 3 (some .int) 1 22) (s0 : Int32) (σ : St) : RX emI shX α D cA z 3 σ 221 [(0, .ref (α 3))] [.int s0] (f_X6_look_221 s0 σ) := by
  unfold f_X6_look_221
  refine rx_istore_n C [(2, .int s0), (0, .ref (α 3))] dX6_look_221 rfl (by decide) rfl ?_
  refine rx_goto C (tgt := 245) dX6_look_222 (by decide) ?_
  exact RX.loc (w_X6_look_245 C s0 σ) [1, 0] rfl
set_option maxRecDepth 100000 in
set_option maxHeartbeats 4000000 in
theorem w_X6_look_220 {α : Nat → Nat} {D : va_G} {cA : Nat → ClassId} {z : Cz} (C : CX shX α D cA z RX6 cX6_look 3 (some .int) 1 22) (σ : St) : RX emI shX α D cA z 3 σ 220 [(0, .ref (α 3))] [] (f_X6_look_220 σ) := by
  unfold f_X6_look_220
  refine rx_iconst C dX6_look_220 ic_0 ?_
  exact RX.loc (w_X6_look_221 C (0 : Int32) σ) [0] rfl
set_option maxRecDepth 100000 in
set_option maxHeartbeats 4000000 in
theorem w_X6_look_162 {α : Nat → Nat} {D : va_G} {cA : Nat → ClassId} {z : Cz} (C : CX shX α D cA z RX6 cX6_look 3 (some .int) 1 22) (s0 : Int32) (σ : St) : RX emI shX α D cA z 3 σ 162 [(0, .ref (α 3))] [.int s0] (f_X6_look_162 s0 σ) := by
  unfold f_X6_look_162
  refine rx_istore_n C [(1, .int s0), (0, .ref (α 3))] dX6_look_162 rfl (by decide) rfl ?_
  refine rx_iconst C dX6_look_163 ic_1 ?_
  refine rx_istore_n C [(2, .int (1 : Int32)), (1, .int s0), (0, .ref (α 3))] dX6_look_164 rfl (by decide) rfl ?_
  refine rx_aload_n C 2 dX6_look_165 rfl rfl ?_
  refine rx_getI C (k := 5) sx_3 fc_X6 (by decide) rfl lk_X6_65 dX6_look_166 ?_
  refine rx_sipush C dX6_look_169 sp_300 ?_
  refine rx_icmp_ne C (tgt := 195) dX6_look_172 (by decide) (fun _ => ?_) (fun _ => ?_)
  · refine rx_iload_n C 1 dX6_look_175 rfl rfl ?_
    refine rx_if_ne C (tgt := 190) dX6_look_176 (by decide) (fun _ => ?_) (fun _ => ?_)
    · refine rx_aload_n C 2 dX6_look_179 rfl rfl ?_
      refine rx_callVi C [] [] (m_X6_readWord z.l C.inj σ) mv_X6_readWord lk_X6_72 sx_3 rfl rfl rfl (Nat.le_of_ble_eq_true rfl) ⟨Nat.le_of_ble_eq_true rfl, Nat.le_of_ble_eq_true rfl⟩ dX6_look_180 (fun q14 => ?_)
      refine rx_if_eq C (tgt := 190) dX6_look_183 (by decide) (fun _ => ?_) (fun _ => ?_)
      · exact RX.loc (w_X6_look_190 C q14.2) [2] rfl
      · refine rx_iconst C dX6_look_186 ic_1 ?_
        refine rx_goto C (tgt := 191) dX6_look_187 (by decide) ?_
        exact RX.loc (w_X6_look_191 C (1 : Int32) q14.2) [2] rfl
    · exact RX.loc (w_X6_look_190 C σ) [2] rfl
  · refine rx_aload_n C 2 dX6_look_195 rfl rfl ?_
    refine rx_getI C (k := 5) sx_3 fc_X6 (by decide) rfl lk_X6_65 dX6_look_196 ?_
    refine rx_sipush C dX6_look_199 sp_301 ?_
    refine rx_icmp_ne C (tgt := 225) dX6_look_202 (by decide) (fun _ => ?_) (fun _ => ?_)
    · refine rx_iload_n C 1 dX6_look_205 rfl rfl ?_
      refine rx_if_ne C (tgt := 220) dX6_look_206 (by decide) (fun _ => ?_) (fun _ => ?_)
      · refine rx_aload_n C 2 dX6_look_209 rfl rfl ?_
        refine rx_callVi C [] [] (m_X6_readNumber z.l C.inj σ) mv_X6_readNumber lk_X6_76 sx_3 rfl rfl rfl (Nat.le_of_ble_eq_true rfl) ⟨Nat.le_of_ble_eq_true rfl, Nat.le_of_ble_eq_true rfl⟩ dX6_look_210 (fun q16 => ?_)
        refine rx_if_eq C (tgt := 220) dX6_look_213 (by decide) (fun _ => ?_) (fun _ => ?_)
        · exact RX.loc (w_X6_look_220 C q16.2) [2] rfl
        · refine rx_iconst C dX6_look_216 ic_1 ?_
          refine rx_goto C (tgt := 221) dX6_look_217 (by decide) ?_
          exact RX.loc (w_X6_look_221 C (1 : Int32) q16.2) [2] rfl
      · exact RX.loc (w_X6_look_220 C σ) [2] rfl
    · refine rx_aload_n C 2 dX6_look_225 rfl rfl ?_
      refine rx_getI C (k := 5) sx_3 fc_X6 (by decide) rfl lk_X6_65 dX6_look_226 ?_
      refine rx_sipush C dX6_look_229 sp_302 ?_
      refine rx_icmp_eq C (tgt := 245) dX6_look_232 (by decide) (fun _ => ?_) (fun _ => ?_)
      · exact RX.loc (w_X6_look_245 C (1 : Int32) σ) [2, 0] rfl
      · refine rx_aload_n C 2 dX6_look_235 rfl rfl ?_
        refine rx_dup C dX6_look_236 rfl ?_
        refine rx_getI C (k := 3) sx_3 fc_X6 (by decide) rfl lk_X6_45 dX6_look_237 ?_
        refine rx_iconst C dX6_look_240 ic_1 ?_
        refine rx_iadd C dX6_look_241 ?_
        refine rx_putI C (k := 3) sx_3 fc_X6 (by decide) rfl lk_X6_45 rfl ⟨rfl, rfl⟩ dX6_look_242 ?_
        refine rx_lts (fun σ17 => ?_)
        exact RX.loc (w_X6_look_245 C (1 : Int32) σ17) [2, 0] rfl
set_option maxRecDepth 100000 in
set_option maxHeartbeats 4000000 in
theorem w_X6_look_161 {α : Nat → Nat} {D : va_G} {cA : Nat → ClassId} {z : Cz} (C : CX shX α D cA z RX6 cX6_look 3 (some .int) 1 22) (σ : St) : RX emI shX α D cA z 3 σ 161 [(0, .ref (α 3))] [] (f_X6_look_161 σ) := by
  unfold f_X6_look_161
  refine rx_iconst C dX6_look_161 ic_0 ?_
  exact RX.loc (w_X6_look_162 C (0 : Int32) σ) [0] rfl
set_option maxRecDepth 100000 in
set_option maxHeartbeats 4000000 in
theorem w_X6_look_127 {α : Nat → Nat} {D : va_G} {cA : Nat → ClassId} {z : Cz} (C : CX shX α D cA z RX6 cX6_look 3 (some .int) 1 22) (s1 : Int32) (σ : St) : RX emI shX α D cA z 3 σ 127 [(0, .ref (α 3))] [.int s1, .ref (α 3)] (f_X6_look_127 s1 σ) := by
  unfold f_X6_look_127
  refine rx_putI C (k := 5) sx_3 fc_X6 (by decide) rfl lk_X6_65 rfl ⟨rfl, rfl⟩ dX6_look_127 ?_
  refine rx_lts (fun σ13 => ?_)
  refine rx_aload_n C 0 dX6_look_130 rfl rfl ?_
  refine rx_getI C (k := 4) sx_3 fc_X6 (by decide) rfl lk_X6_48 dX6_look_131 ?_
  refine rx_if_le C (tgt := 161) dX6_look_134 (by decide) (fun _ => ?_) (fun _ => ?_)
  · exact RX.loc (w_X6_look_161 C σ13) [0] rfl
  · refine rx_aload_n C 0 dX6_look_137 rfl rfl ?_
    refine rx_getC C (k := 0) sx_3 fc_X6 (by decide) 1 rfl lk_X6_11 dX6_look_138 ?_
    refine rx_aload_n C 0 dX6_look_141 rfl rfl ?_
    refine rx_getI C (k := 4) sx_3 fc_X6 (by decide) rfl lk_X6_48 dX6_look_142 ?_
    refine rx_iconst C dX6_look_145 ic_1 ?_
    refine rx_isub C dX6_look_146 ?_
    refine rx_iald C (n := 1600) sx_1 dX6_look_147 (fun _ => ?_)
    refine rx_callSi C [.int (gI σ13 1 (ix ((gI σ13 3 4) - (1 : Int32))))] [] (m_X6_kindOf z.l C.inj (gI σ13 1 (ix ((gI σ13 3 4) - (1 : Int32)))) σ13) ms_X6_kindOf lk_X6_68 rfl rfl (Nat.le_of_ble_eq_true rfl) ⟨Nat.le_of_ble_eq_true rfl, Nat.le_of_ble_eq_true rfl⟩ dX6_look_148 (fun q18 => ?_)
    refine rx_sipush C dX6_look_151 sp_255 ?_
    refine rx_icmp_le C (tgt := 161) dX6_look_154 (by decide) (fun _ => ?_) (fun _ => ?_)
    · exact RX.loc (w_X6_look_161 C q18.2) [0] rfl
    · refine rx_iconst C dX6_look_157 ic_1 ?_
      refine rx_goto C (tgt := 162) dX6_look_158 (by decide) ?_
      exact RX.loc (w_X6_look_162 C (1 : Int32) q18.2) [0] rfl
set_option maxRecDepth 100000 in
set_option maxHeartbeats 4000000 in
theorem w_X6_look_89 {α : Nat → Nat} {D : va_G} {cA : Nat → ClassId} {z : Cz} (C : CX shX α D cA z RX6 cX6_look 3 (some .int) 1 22) (σ : St) : RX emI shX α D cA z 3 σ 89 [(0, .ref (α 3))] [] (f_X6_look_89 σ) := by
  unfold f_X6_look_89
  refine rx_aload_n C 0 dX6_look_89 rfl rfl ?_
  refine rx_aload_n C 0 dX6_look_90 rfl rfl ?_
  refine rx_getI C (k := 3) sx_3 fc_X6 (by decide) rfl lk_X6_45 dX6_look_91 ?_
  refine rx_putI C (k := 4) sx_3 fc_X6 (by decide) rfl lk_X6_48 rfl ⟨rfl, rfl⟩ dX6_look_94 ?_
  refine rx_lts (fun σ12 => ?_)
  refine rx_aload_n C 0 dX6_look_97 rfl rfl ?_
  refine rx_aload_n C 0 dX6_look_98 rfl rfl ?_
  refine rx_getI C (k := 4) sx_3 fc_X6 (by decide) rfl lk_X6_48 dX6_look_99 ?_
  refine rx_aload_n C 0 dX6_look_102 rfl rfl ?_
  refine rx_getI C (k := 2) sx_3 fc_X6 (by decide) rfl lk_X6_42 dX6_look_103 ?_
  refine rx_icmp_ge C (tgt := 124) dX6_look_106 (by decide) (fun _ => ?_) (fun _ => ?_)
  · refine rx_sipush C dX6_look_124 sp_302 ?_
    exact RX.loc (w_X6_look_127 C (302 : Int32) σ12) [0] rfl
  · refine rx_aload_n C 0 dX6_look_109 rfl rfl ?_
    refine rx_getC C (k := 0) sx_3 fc_X6 (by decide) 1 rfl lk_X6_11 dX6_look_110 ?_
    refine rx_aload_n C 0 dX6_look_113 rfl rfl ?_
    refine rx_getI C (k := 4) sx_3 fc_X6 (by decide) rfl lk_X6_48 dX6_look_114 ?_
    refine rx_iald C (n := 1600) sx_1 dX6_look_117 (fun _ => ?_)
    refine rx_callSi C [.int (gI σ12 1 (ix (gI σ12 3 4)))] [.ref (α 3)] (m_X6_kindOf z.l C.inj (gI σ12 1 (ix (gI σ12 3 4))) σ12) ms_X6_kindOf lk_X6_68 rfl rfl (Nat.le_of_ble_eq_true rfl) ⟨Nat.le_of_ble_eq_true rfl, Nat.le_of_ble_eq_true rfl⟩ dX6_look_118 (fun q19 => ?_)
    refine rx_goto C (tgt := 127) dX6_look_121 (by decide) ?_
    exact RX.loc (w_X6_look_127 C q19.1 q19.2) [0] rfl
set_option maxRecDepth 100000 in
set_option maxHeartbeats 4000000 in
theorem w_X6_look_76 {α : Nat → Nat} {D : va_G} {cA : Nat → ClassId} {z : Cz} (C : CX shX α D cA z RX6 cX6_look 3 (some .int) 1 22) (k_37 : St → Option (Int32 × St)) (hk_37 : ∀ (σ : St), RX emI shX α D cA z 3 σ 37 [(0, .ref (α 3))] [] (k_37 σ)) (σ : St) : RX emI shX α D cA z 3 σ 76 [(0, .ref (α 3))] [] (f_X6_look_76 k_37 σ) := by
  unfold f_X6_look_76
  refine rx_aload_n C 0 dX6_look_76 rfl rfl ?_
  refine rx_dup C dX6_look_77 rfl ?_
  refine rx_getI C (k := 3) sx_3 fc_X6 (by decide) rfl lk_X6_45 dX6_look_78 ?_
  refine rx_iconst C dX6_look_81 ic_1 ?_
  refine rx_iadd C dX6_look_82 ?_
  refine rx_putI C (k := 3) sx_3 fc_X6 (by decide) rfl lk_X6_45 rfl ⟨rfl, rfl⟩ dX6_look_83 ?_
  refine rx_lts (fun σ20 => ?_)
  refine rx_goto C (tgt := 37) dX6_look_86 (by decide) ?_
  exact RX.loc (hk_37 σ20) [0] rfl
set_option maxRecDepth 100000 in
set_option maxHeartbeats 4000000 in
theorem w_X6_look_37 {α : Nat → Nat} {D : va_G} {cA : Nat → ClassId} {z : Cz} (C : CX shX α D cA z RX6 cX6_look 3 (some .int) 1 22) : ∀ (n : Nat) (σ : St), RX emI shX α D cA z 3 σ 37 [(0, .ref (α 3))] [] (f_X6_look_37 n σ) := by
  intro n
  induction n with
  | zero => intros; exact rx_none
  | succ n hk_37 =>
    intro σ
    rw [f_X6_look_37.eq_2]
    refine rx_aload_n C 0 dX6_look_37 rfl rfl ?_
    refine rx_getI C (k := 3) sx_3 fc_X6 (by decide) rfl lk_X6_45 dX6_look_38 ?_
    refine rx_aload_n C 0 dX6_look_41 rfl rfl ?_
    refine rx_getI C (k := 2) sx_3 fc_X6 (by decide) rfl lk_X6_42 dX6_look_42 ?_
    refine rx_icmp_ge C (tgt := 89) dX6_look_45 (by decide) (fun _ => ?_) (fun _ => ?_)
    · exact RX.loc (w_X6_look_89 C σ) [0] rfl
    · refine rx_aload_n C 0 dX6_look_48 rfl rfl ?_
      refine rx_getC C (k := 0) sx_3 fc_X6 (by decide) 1 rfl lk_X6_11 dX6_look_49 ?_
      refine rx_aload_n C 0 dX6_look_52 rfl rfl ?_
      refine rx_getI C (k := 3) sx_3 fc_X6 (by decide) rfl lk_X6_45 dX6_look_53 ?_
      refine rx_iald C (n := 1600) sx_1 dX6_look_56 (fun _ => ?_)
      refine rx_bipush C dX6_look_57 bp_10 ?_
      refine rx_icmp_eq C (tgt := 76) dX6_look_59 (by decide) (fun _ => ?_) (fun _ => ?_)
      · exact RX.loc (w_X6_look_76 C (f_X6_look_37 n) hk_37 σ) [0] rfl
      · refine rx_aload_n C 0 dX6_look_62 rfl rfl ?_
        refine rx_getC C (k := 0) sx_3 fc_X6 (by decide) 1 rfl lk_X6_11 dX6_look_63 ?_
        refine rx_aload_n C 0 dX6_look_66 rfl rfl ?_
        refine rx_getI C (k := 3) sx_3 fc_X6 (by decide) rfl lk_X6_45 dX6_look_67 ?_
        refine rx_iald C (n := 1600) sx_1 dX6_look_70 (fun _ => ?_)
        refine rx_bipush C dX6_look_71 bp_32 ?_
        refine rx_icmp_ne C (tgt := 89) dX6_look_73 (by decide) (fun _ => ?_) (fun _ => ?_)
        · exact RX.loc (w_X6_look_76 C (f_X6_look_37 n) hk_37 σ) [0] rfl
        · exact RX.loc (w_X6_look_89 C σ) [0] rfl
set_option maxRecDepth 100000 in
set_option maxHeartbeats 4000000 in
theorem w_X6_look_31 {α : Nat → Nat} {D : va_G} {cA : Nat → ClassId} {z : Cz} (C : CX shX α D cA z RX6 cX6_look 3 (some .int) 1 22) (s0 : Int32) (σ : St) : RX emI shX α D cA z 3 σ 31 [] [.int s0] (f_X6_look_31 s0 σ) := by
  unfold f_X6_look_31
  exact rx_iret C dX6_look_31
set_option maxRecDepth 100000 in
set_option maxHeartbeats 4000000 in
theorem w_X6_look_14 {α : Nat → Nat} {D : va_G} {cA : Nat → ClassId} {z : Cz} (C : CX shX α D cA z RX6 cX6_look 3 (some .int) 1 22) (σ : St) : RX emI shX α D cA z 3 σ 14 [(0, .ref (α 3))] [] (f_X6_look_14 σ) := by
  unfold f_X6_look_14
  refine rx_aload_n C 0 dX6_look_14 rfl rfl ?_
  refine rx_getI C (k := 8) sx_3 fc_X6 (by decide) rfl lk_X6_55 dX6_look_15 ?_
  refine rx_if_ne C (tgt := 28) dX6_look_18 (by decide) (fun _ => ?_) (fun _ => ?_)
  · refine rx_aload_n C 0 dX6_look_21 rfl rfl ?_
    refine rx_getI C (k := 5) sx_3 fc_X6 (by decide) rfl lk_X6_65 dX6_look_22 ?_
    refine rx_goto C (tgt := 31) dX6_look_25 (by decide) ?_
    exact RX.loc (w_X6_look_31 C (gI σ 3 5) σ) [] rfl
  · refine rx_sipush C dX6_look_28 sp_303 ?_
    exact RX.loc (w_X6_look_31 C (303 : Int32) σ) [] rfl
set_option maxRecDepth 100000 in
set_option maxHeartbeats 4000000 in
theorem w_X6_look_e {α : Nat → Nat} {D : va_G} {cA : Nat → ClassId} {z : Cz} (C : CX shX α D cA z RX6 cX6_look 3 (some .int) 1 22) (σ : St) : RX emI shX α D cA z 3 σ 0 [(0, .ref (α 3))] [] (f_X6_look σ) := by
  unfold f_X6_look
  refine rx_aload_n C 0 dX6_look_0 rfl rfl ?_
  refine rx_getI C (k := 7) sx_3 fc_X6 (by decide) rfl lk_X6_51 dX6_look_1 ?_
  refine rx_if_ne C (tgt := 14) dX6_look_4 (by decide) (fun _ => ?_) (fun _ => ?_)
  · refine rx_aload_n C 0 dX6_look_7 rfl rfl ?_
    refine rx_getI C (k := 8) sx_3 fc_X6 (by decide) rfl lk_X6_55 dX6_look_8 ?_
    refine rx_if_eq C (tgt := 32) dX6_look_11 (by decide) (fun _ => ?_) (fun _ => ?_)
    · refine rx_aload_n C 0 dX6_look_32 rfl rfl ?_
      refine rx_iconst C dX6_look_33 ic_1 ?_
      refine rx_putI C (k := 7) sx_3 fc_X6 (by decide) rfl lk_X6_51 rfl ⟨rfl, rfl⟩ dX6_look_34 ?_
      refine rx_lts (fun σ11 => ?_)
      exact RX.loc (w_X6_look_37 C FU σ11) [0] rfl
    · exact RX.loc (w_X6_look_14 C σ) [0] rfl
  · exact RX.loc (w_X6_look_14 C σ) [0] rfl
theorem m_X6_look (l : Launch) {α : Nat → Nat} {D : va_G} {cA : Nat → ClassId} (hin : inj shX.length α) (σ : St) : CT shX l yX6_look cX6_look 3 (some .int) 1 22 emI α D cA [.ref (α 3)] σ (f_X6_look σ) := ct_of rfl (Nat.le_of_ble_eq_true rfl) hin (fun z _ C => w_X6_look_e C σ)
