set_option maxRecDepth 100000 in
set_option maxHeartbeats 4000000 in
theorem w_X11_goings_40 {α : Nat → Nat} {D : va_G} {cA : Nat → ClassId} {z : Cz} (C : CX shM α D cA z RX11 cX11_goings 8 (some .int) 4 90) (σ : St) : RX emI shM α D cA z 8 σ 40 [] [] (f_X11_goings_40 σ) := by
  unfold f_X11_goings_40
  refine rx_iconst C dX11_goings_40 ic_m1 ?_
  exact rx_iret C dX11_goings_41
set_option maxRecDepth 100000 in
set_option maxHeartbeats 4000000 in
theorem w_X11_goings_290 {α : Nat → Nat} {D : va_G} {cA : Nat → ClassId} {z : Cz} (C : CX shM α D cA z RX11 cX11_goings 8 (some .int) 4 90) (k_163 : Int32 → Int32 → St → Option (Int32 × St)) (hk_163 : ∀ (x2 : Int32) (x4 : Int32) (σ : St), RX emI shM α D cA z 8 σ 163 [(0, .ref (α 0)), (2, .int x2), (4, .int x4)] [] (k_163 x2 x4 σ)) (x2 : Int32) (x4 : Int32) (σ : St) : RX emI shM α D cA z 8 σ 290 [(0, .ref (α 0)), (2, .int x2), (4, .int x4)] [] (f_X11_goings_290 k_163 x2 x4 σ) := by
  unfold f_X11_goings_290
  refine rx_iinc C (k0 := 2) (v := x4 + (1 : Int32)) [(4, .int (x4 + (1 : Int32))), (0, .ref (α 0)), (2, .int x2)] dX11_goings_290 rfl (congrArg _ ic_1) (by decide) rfl ?_
  refine rx_goto C (tgt := 163) dX11_goings_293 (by decide) ?_
  exact RX.loc (hk_163 x2 (x4 + (1 : Int32)) σ) [1, 2, 0] rfl
set_option maxRecDepth 100000 in
set_option maxHeartbeats 4000000 in
theorem w_X11_goings_278 {α : Nat → Nat} {D : va_G} {cA : Nat → ClassId} {z : Cz} (C : CX shM α D cA z RX11 cX11_goings 8 (some .int) 4 90) (k_163 : Int32 → Int32 → St → Option (Int32 × St)) (hk_163 : ∀ (x2 : Int32) (x4 : Int32) (σ : St), RX emI shM α D cA z 8 σ 163 [(0, .ref (α 0)), (2, .int x2), (4, .int x4)] [] (k_163 x2 x4 σ)) (k_190 : Int32 → Int32 → Int32 → St → Option (Int32 × St)) (hk_190 : ∀ (x2 : Int32) (x4 : Int32) (x5 : Int32) (σ : St), RX emI shM α D cA z 8 σ 190 [(0, .ref (α 0)), (2, .int x2), (4, .int x4), (5, .int x5)] [] (k_190 x2 x4 x5 σ)) (x2 : Int32) (x4 : Int32) (x5 : Int32) (σ : St) : RX emI shM α D cA z 8 σ 278 [(0, .ref (α 0)), (2, .int x2), (4, .int x4), (5, .int x5)] [] (f_X11_goings_278 k_163 k_190 x2 x4 x5 σ) := by
  unfold f_X11_goings_278
  refine rx_iload C 3 dX11_goings_278 rfl ?_
  refine rx_iconst C dX11_goings_280 ic_1 ?_
  refine rx_isub C dX11_goings_281 ?_
  refine rx_iload C 2 dX11_goings_282 rfl ?_
  refine rx_iand C dX11_goings_284 ?_
  refine rx_lti (fun w17 => ?_)
  refine rx_istore C [(5, .int w17), (0, .ref (α 0)), (2, .int x2), (4, .int x4)] dX11_goings_285 (by decide) rfl ?_
  refine rx_goto C (tgt := 190) dX11_goings_287 (by decide) ?_
  exact RX.loc (hk_190 x2 x4 w17 σ) [1, 2, 3, 0] rfl
set_option maxRecDepth 100000 in
set_option maxHeartbeats 4000000 in
theorem w_X11_goings_269 {α : Nat → Nat} {D : va_G} {cA : Nat → ClassId} {z : Cz} (C : CX shM α D cA z RX11 cX11_goings 8 (some .int) 4 90) (k_163 : Int32 → Int32 → St → Option (Int32 × St)) (hk_163 : ∀ (x2 : Int32) (x4 : Int32) (σ : St), RX emI shM α D cA z 8 σ 163 [(0, .ref (α 0)), (2, .int x2), (4, .int x4)] [] (k_163 x2 x4 σ)) (k_190 : Int32 → Int32 → Int32 → St → Option (Int32 × St)) (hk_190 : ∀ (x2 : Int32) (x4 : Int32) (x5 : Int32) (σ : St), RX emI shM α D cA z 8 σ 190 [(0, .ref (α 0)), (2, .int x2), (4, .int x4), (5, .int x5)] [] (k_190 x2 x4 x5 σ)) (x2 : Int32) (x4 : Int32) (x5 : Int32) (x7 : Int32) (σ : St) : RX emI shM α D cA z 8 σ 269 [(0, .ref (α 0)), (2, .int x2), (4, .int x4), (5, .int x5), (7, .int x7)] [] (f_X11_goings_269 k_163 k_190 x2 x4 x5 x7 σ) := by
  unfold f_X11_goings_269
  refine rx_aload_n C 0 dX11_goings_269 rfl rfl ?_
  refine rx_getC C (k := 70) sm_0 fc_X11 (by decide) 44 rfl lk_X11_225 dX11_goings_270 ?_
  refine rx_iload C 2 dX11_goings_273 rfl ?_
  refine rx_iload C 4 dX11_goings_275 rfl ?_
  refine rx_iast C (n := 256) sm_44 dX11_goings_277 (fun _ => ?_)
  refine rx_lts (fun σ19 => ?_)
  exact RX.loc (w_X11_goings_278 C k_163 hk_163 k_190 hk_190 x2 x4 x5 σ19) [0, 1, 2, 3] rfl
set_option maxRecDepth 100000 in
set_option maxHeartbeats 4000000 in
theorem w_X11_goings_190 {α : Nat → Nat} {D : va_G} {cA : Nat → ClassId} {z : Cz} (C : CX shM α D cA z RX11 cX11_goings 8 (some .int) 4 90) (k_163 : Int32 → Int32 → St → Option (Int32 × St)) (hk_163 : ∀ (x2 : Int32) (x4 : Int32) (σ : St), RX emI shM α D cA z 8 σ 163 [(0, .ref (α 0)), (2, .int x2), (4, .int x4)] [] (k_163 x2 x4 σ)) : ∀ (n : Nat) (x2 : Int32) (x4 : Int32) (x5 : Int32) (σ : St), RX emI shM α D cA z 8 σ 190 [(0, .ref (α 0)), (2, .int x2), (4, .int x4), (5, .int x5)] [] (f_X11_goings_190 k_163 n x2 x4 x5 σ) := by
  intro n
  induction n with
  | zero => intros; exact rx_none
  | succ n hk_190 =>
    intro x2 x4 x5 σ
    rw [f_X11_goings_190.eq_2]
    refine rx_iload C 3 dX11_goings_190 rfl ?_
    refine rx_if_le C (tgt := 290) dX11_goings_192 (by decide) (fun _ => ?_) (fun _ => ?_)
    · exact RX.loc (w_X11_goings_290 C k_163 hk_163 x2 x4 σ) [0, 1, 2] rfl
    · refine rx_iload C 2 dX11_goings_195 rfl ?_
      refine rx_iload C 3 dX11_goings_197 rfl ?_
      refine rx_iconst C dX11_goings_199 ic_m1 ?_
      refine rx_ixor C dX11_goings_200 ?_
      refine rx_iand C dX11_goings_201 ?_
      refine rx_lti (fun w16 => ?_)
      refine rx_istore C [(6, .int w16), (0, .ref (α 0)), (2, .int x2), (4, .int x4), (5, .int x5)] dX11_goings_202 (by decide) rfl ?_
      refine rx_aload_n C 1 dX11_goings_204 rfl rfl ?_
      refine rx_getC C (k := 70) sm_0 fc_X11 (by decide) 44 rfl lk_X11_225 dX11_goings_205 ?_
      refine rx_iload C 4 dX11_goings_208 rfl ?_
      refine rx_iald C (n := 256) sm_44 dX11_goings_210 (fun _ => ?_)
      refine rx_iconst C dX11_goings_211 ic_m1 ?_
      refine rx_icmp_eq C (tgt := 278) dX11_goings_212 (by decide) (fun _ => ?_) (fun _ => ?_)
      · exact RX.loc (w_X11_goings_278 C k_163 hk_163 (f_X11_goings_190 k_163 n) hk_190 x2 x4 x5 σ) [1, 2, 3, 4] rfl
      · refine rx_aload_n C 1 dX11_goings_215 rfl rfl ?_
        refine rx_getC C (k := 70) sm_0 fc_X11 (by decide) 44 rfl lk_X11_225 dX11_goings_216 ?_
        refine rx_iload C 0 dX11_goings_219 rfl ?_
        refine rx_iald C (n := 256) sm_44 dX11_goings_221 (fun _ => ?_)
        refine rx_iconst C dX11_goings_222 ic_m1 ?_
        refine rx_icmp_ne C (tgt := 229) dX11_goings_223 (by decide) (fun _ => ?_) (fun _ => ?_)
        · refine rx_goto C (tgt := 278) dX11_goings_226 (by decide) ?_
          exact RX.loc (w_X11_goings_278 C k_163 hk_163 (f_X11_goings_190 k_163 n) hk_190 x2 x4 x5 σ) [1, 2, 3, 4] rfl
        · refine rx_aload_n C 1 dX11_goings_229 rfl rfl ?_
          refine rx_getC C (k := 70) sm_0 fc_X11 (by decide) 44 rfl lk_X11_225 dX11_goings_230 ?_
          refine rx_iload C 4 dX11_goings_233 rfl ?_
          refine rx_iald C (n := 256) sm_44 dX11_goings_235 (fun _ => ?_)
          refine rx_aload_n C 1 dX11_goings_236 rfl rfl ?_
          refine rx_getC C (k := 70) sm_0 fc_X11 (by decide) 44 rfl lk_X11_225 dX11_goings_237 ?_
          refine rx_iload C 0 dX11_goings_240 rfl ?_
          refine rx_iald C (n := 256) sm_44 dX11_goings_242 (fun _ => ?_)
          refine rx_iadd C dX11_goings_243 ?_
          refine rx_lti (fun w18 => ?_)
          refine rx_istore C [(7, .int w18), (6, .int w16), (0, .ref (α 0)), (2, .int x2), (4, .int x4), (5, .int x5)] dX11_goings_244 (by decide) rfl ?_
          refine rx_aload_n C 2 dX11_goings_246 rfl rfl ?_
          refine rx_getC C (k := 70) sm_0 fc_X11 (by decide) 44 rfl lk_X11_225 dX11_goings_247 ?_
          refine rx_iload C 4 dX11_goings_250 rfl ?_
          refine rx_iald C (n := 256) sm_44 dX11_goings_252 (fun _ => ?_)
          refine rx_iconst C dX11_goings_253 ic_m1 ?_
          refine rx_icmp_eq C (tgt := 269) dX11_goings_254 (by decide) (fun _ => ?_) (fun _ => ?_)
          · exact RX.loc (w_X11_goings_269 C k_163 hk_163 (f_X11_goings_190 k_163 n) hk_190 x2 x4 x5 w18 σ) [2, 3, 4, 5, 0] rfl
          · refine rx_iload C 0 dX11_goings_257 rfl ?_
            refine rx_aload_n C 2 dX11_goings_259 rfl rfl ?_
            refine rx_getC C (k := 70) sm_0 fc_X11 (by decide) 44 rfl lk_X11_225 dX11_goings_260 ?_
            refine rx_iload C 4 dX11_goings_263 rfl ?_
            refine rx_iald C (n := 256) sm_44 dX11_goings_265 (fun _ => ?_)
            refine rx_icmp_ge C (tgt := 278) dX11_goings_266 (by decide) (fun _ => ?_) (fun _ => ?_)
            · exact RX.loc (w_X11_goings_278 C k_163 hk_163 (f_X11_goings_190 k_163 n) hk_190 x2 x4 x5 σ) [2, 3, 4, 5] rfl
            · exact RX.loc (w_X11_goings_269 C k_163 hk_163 (f_X11_goings_190 k_163 n) hk_190 x2 x4 x5 w18 σ) [2, 3, 4, 5, 0] rfl
set_option maxRecDepth 100000 in
set_option maxHeartbeats 4000000 in
theorem w_X11_goings_163 {α : Nat → Nat} {D : va_G} {cA : Nat → ClassId} {z : Cz} (C : CX shM α D cA z RX11 cX11_goings 8 (some .int) 4 90) : ∀ (n : Nat) (x2 : Int32) (x4 : Int32) (σ : St), RX emI shM α D cA z 8 σ 163 [(0, .ref (α 0)), (2, .int x2), (4, .int x4)] [] (f_X11_goings_163 n x2 x4 σ) := by
  intro n
  induction n with
  | zero => intros; exact rx_none
  | succ n hk_163 =>
    intro x2 x4 σ
    rw [f_X11_goings_163.eq_2]
    refine rx_iload C 2 dX11_goings_163 rfl ?_
    refine rx_iload_n C 1 dX11_goings_165 rfl rfl ?_
    refine rx_icmp_gt C (tgt := 296) dX11_goings_166 (by decide) (fun _ => ?_) (fun _ => ?_)
    · refine rx_aload_n C 0 dX11_goings_296 rfl rfl ?_
      refine rx_getC C (k := 70) sm_0 fc_X11 (by decide) 44 rfl lk_X11_225 dX11_goings_297 ?_
      refine rx_iload_n C 1 dX11_goings_300 rfl rfl ?_
      refine rx_iald C (n := 256) sm_44 dX11_goings_301 (fun _ => ?_)
      exact rx_iret C dX11_goings_302
    · refine rx_iload C 2 dX11_goings_169 rfl ?_
      refine rx_iload_n C 1 dX11_goings_171 rfl rfl ?_
      refine rx_iand C dX11_goings_172 ?_
      refine rx_iload C 2 dX11_goings_173 rfl ?_
      refine rx_icmp_eq C (tgt := 181) dX11_goings_175 (by decide) (fun _ => ?_) (fun _ => ?_)
      · refine rx_iload C 2 dX11_goings_181 rfl ?_
        refine rx_iconst C dX11_goings_183 ic_1 ?_
        refine rx_isub C dX11_goings_184 ?_
        refine rx_iload C 2 dX11_goings_185 rfl ?_
        refine rx_iand C dX11_goings_187 ?_
        refine rx_lti (fun w15 => ?_)
        refine rx_istore C [(5, .int w15), (0, .ref (α 0)), (2, .int x2), (4, .int x4)] dX11_goings_188 (by decide) rfl ?_
        exact RX.loc (w_X11_goings_190 C (f_X11_goings_163 n) hk_163 FU x2 x4 w15 σ) [1, 2, 3, 0] rfl
      · refine rx_goto C (tgt := 290) dX11_goings_178 (by decide) ?_
        exact RX.loc (w_X11_goings_290 C (f_X11_goings_163 n) hk_163 x2 x4 σ) [0, 1, 2] rfl
set_option maxRecDepth 100000 in
set_option maxHeartbeats 4000000 in
theorem w_X11_goings_153 {α : Nat → Nat} {D : va_G} {cA : Nat → ClassId} {z : Cz} (C : CX shM α D cA z RX11 cX11_goings 8 (some .int) 4 90) (k_59 : Int32 → Int32 → Int32 → St → Option (Int32 × St)) (hk_59 : ∀ (x2 : Int32) (x3 : Int32) (x4 : Int32) (σ : St), RX emI shM α D cA z 8 σ 59 [(0, .ref (α 0)), (2, .int x2), (3, .int x3), (4, .int x4)] [] (k_59 x2 x3 x4 σ)) (x2 : Int32) (x3 : Int32) (x4 : Int32) (s2 : Int32) (s1 : Int32) (σ : St) : RX emI shM α D cA z 8 σ 153 [(0, .ref (α 0)), (2, .int x2), (3, .int x3), (4, .int x4)] [.int s2, .int s1, .ref (α 44)] (f_X11_goings_153 k_59 x2 x3 x4 s2 s1 σ) := by
  unfold f_X11_goings_153
  refine rx_iast C (n := 256) sm_44 dX11_goings_153 (fun _ => ?_)
  refine rx_lts (fun σ20 => ?_)
  refine rx_iinc C (k0 := 3) (v := x4 + (1 : Int32)) [(4, .int (x4 + (1 : Int32))), (0, .ref (α 0)), (2, .int x2), (3, .int x3)] dX11_goings_154 rfl (congrArg _ ic_1) (by decide) rfl ?_
  refine rx_goto C (tgt := 59) dX11_goings_157 (by decide) ?_
  exact RX.loc (hk_59 x2 x3 (x4 + (1 : Int32)) σ20) [1, 2, 3, 0] rfl
set_option maxRecDepth 100000 in
set_option maxHeartbeats 4000000 in
theorem w_X11_goings_118 {α : Nat → Nat} {D : va_G} {cA : Nat → ClassId} {z : Cz} (C : CX shM α D cA z RX11 cX11_goings 8 (some .int) 4 90) (k_59 : Int32 → Int32 → Int32 → St → Option (Int32 × St)) (hk_59 : ∀ (x2 : Int32) (x3 : Int32) (x4 : Int32) (σ : St), RX emI shM α D cA z 8 σ 59 [(0, .ref (α 0)), (2, .int x2), (3, .int x3), (4, .int x4)] [] (k_59 x2 x3 x4 σ)) (k_81 : Int32 → Int32 → Int32 → Int32 → Int32 → St → Option (Int32 × St)) (hk_81 : ∀ (x2 : Int32) (x3 : Int32) (x4 : Int32) (x5 : Int32) (x6 : Int32) (σ : St), RX emI shM α D cA z 8 σ 81 [(0, .ref (α 0)), (2, .int x2), (3, .int x3), (4, .int x4), (5, .int x5), (6, .int x6)] [] (k_81 x2 x3 x4 x5 x6 σ)) (x2 : Int32) (x3 : Int32) (x4 : Int32) (x6 : Int32) (s1 : Int32) (s0 : Int32) (σ : St) : RX emI shM α D cA z 8 σ 118 [(0, .ref (α 0)), (2, .int x2), (3, .int x3), (4, .int x4), (6, .int x6)] [.int s1, .int s0] (f_X11_goings_118 k_59 k_81 x2 x3 x4 x6 s1 s0 σ) := by
  unfold f_X11_goings_118
  refine rx_iadd C dX11_goings_118 ?_
  refine rx_lti (fun w22 => ?_)
  refine rx_istore C [(5, .int w22), (0, .ref (α 0)), (2, .int x2), (3, .int x3), (4, .int x4), (6, .int x6)] dX11_goings_119 (by decide) rfl ?_
  refine rx_iinc C (k0 := 5) (v := x6 + (1 : Int32)) [(6, .int (x6 + (1 : Int32))), (5, .int w22), (0, .ref (α 0)), (2, .int x2), (3, .int x3), (4, .int x4)] dX11_goings_121 rfl (congrArg _ ic_1) (by decide) rfl ?_
  refine rx_goto C (tgt := 81) dX11_goings_124 (by decide) ?_
  exact RX.loc (hk_81 x2 x3 x4 w22 (x6 + (1 : Int32)) σ) [2, 3, 4, 5, 1, 0] rfl
set_option maxRecDepth 100000 in
set_option maxHeartbeats 4000000 in
theorem w_X11_goings_81 {α : Nat → Nat} {D : va_G} {cA : Nat → ClassId} {z : Cz} (C : CX shM α D cA z RX11 cX11_goings 8 (some .int) 4 90) (k_59 : Int32 → Int32 → Int32 → St → Option (Int32 × St)) (hk_59 : ∀ (x2 : Int32) (x3 : Int32) (x4 : Int32) (σ : St), RX emI shM α D cA z 8 σ 59 [(0, .ref (α 0)), (2, .int x2), (3, .int x3), (4, .int x4)] [] (k_59 x2 x3 x4 σ)) : ∀ (n : Nat) (x2 : Int32) (x3 : Int32) (x4 : Int32) (x5 : Int32) (x6 : Int32) (σ : St), RX emI shM α D cA z 8 σ 81 [(0, .ref (α 0)), (2, .int x2), (3, .int x3), (4, .int x4), (5, .int x5), (6, .int x6)] [] (f_X11_goings_81 k_59 n x2 x3 x4 x5 x6 σ) := by
  intro n
  induction n with
  | zero => intros; exact rx_none
  | succ n hk_81 =>
    intro x2 x3 x4 x5 x6 σ
    rw [f_X11_goings_81.eq_2]
    refine rx_iload C 5 dX11_goings_81 rfl ?_
    refine rx_aload_n C 0 dX11_goings_83 rfl rfl ?_
    refine rx_getC C (k := 14) sm_0 fc_X11 (by decide) 3 rfl lk_X11_54 dX11_goings_84 ?_
    refine rx_aload_n C 0 dX11_goings_87 rfl rfl ?_
    refine rx_getI C (k := 12) sm_0 fc_X11 (by decide) rfl lk_X11_48 dX11_goings_88 ?_
    refine rx_iald C (n := 2) sm_3 dX11_goings_91 (fun _ => ?_)
    refine rx_icmp_ge C (tgt := 127) dX11_goings_92 (by decide) (fun _ => ?_) (fun _ => ?_)
    · refine rx_aload_n C 0 dX11_goings_127 rfl rfl ?_
      refine rx_getC C (k := 70) sm_0 fc_X11 (by decide) 44 rfl lk_X11_225 dX11_goings_128 ?_
      refine rx_iload C 3 dX11_goings_131 rfl ?_
      refine rx_iload C 3 dX11_goings_133 rfl ?_
      refine rx_if_ne C (tgt := 142) dX11_goings_135 (by decide) (fun _ => ?_) (fun _ => ?_)
      · refine rx_iconst C dX11_goings_138 ic_0 ?_
        refine rx_goto C (tgt := 153) dX11_goings_139 (by decide) ?_
        exact RX.loc (w_X11_goings_153 C k_59 hk_59 x2 x3 x4 (0 : Int32) x4 σ) [0, 1, 2, 3] rfl
      · refine rx_iload C 4 dX11_goings_142 rfl ?_
        refine rx_iload_n C 2 dX11_goings_144 rfl rfl ?_
        refine rx_icmp_gt C (tgt := 152) dX11_goings_145 (by decide) (fun _ => ?_) (fun _ => ?_)
        · refine rx_iconst C dX11_goings_152 ic_m1 ?_
          exact RX.loc (w_X11_goings_153 C k_59 hk_59 x2 x3 x4 (-1 : Int32) x4 σ) [0, 1, 2, 3] rfl
        · refine rx_iconst C dX11_goings_148 ic_1 ?_
          refine rx_goto C (tgt := 153) dX11_goings_149 (by decide) ?_
          exact RX.loc (w_X11_goings_153 C k_59 hk_59 x2 x3 x4 (1 : Int32) x4 σ) [0, 1, 2, 3] rfl
    · refine rx_iload C 4 dX11_goings_95 rfl ?_
      refine rx_iload C 3 dX11_goings_97 rfl ?_
      refine rx_iload C 5 dX11_goings_99 rfl ?_
      refine rx_ishr C dX11_goings_101 ?_
      refine rx_iconst C dX11_goings_102 ic_1 ?_
      refine rx_iand C dX11_goings_103 ?_
      refine rx_iconst C dX11_goings_104 ic_1 ?_
      refine rx_icmp_ne C (tgt := 117) dX11_goings_105 (by decide) (fun _ => ?_) (fun _ => ?_)
      · refine rx_aload_n C 0 dX11_goings_108 rfl rfl ?_
        refine rx_iload C 5 dX11_goings_109 rfl ?_
        refine rx_callVi C [.int x6] [.int x5] (m_X11_loadOf z.l C.inj x6 σ) mv_X11_loadOf lk_X11_489 sm_0 rfl rfl rfl (Nat.le_of_ble_eq_true rfl) ⟨Nat.le_of_ble_eq_true rfl, Nat.le_of_ble_eq_true rfl⟩ dX11_goings_111 (fun q21 => ?_)
        refine rx_goto C (tgt := 118) dX11_goings_114 (by decide) ?_
        exact RX.loc (w_X11_goings_118 C k_59 hk_59 (f_X11_goings_81 k_59 n) hk_81 x2 x3 x4 x6 q21.1 x5 q21.2) [0, 1, 2, 3, 5] rfl
      · refine rx_iconst C dX11_goings_117 ic_0 ?_
        exact RX.loc (w_X11_goings_118 C k_59 hk_59 (f_X11_goings_81 k_59 n) hk_81 x2 x3 x4 x6 (0 : Int32) x5 σ) [0, 1, 2, 3, 5] rfl
set_option maxRecDepth 100000 in
set_option maxHeartbeats 4000000 in
theorem w_X11_goings_59 {α : Nat → Nat} {D : va_G} {cA : Nat → ClassId} {z : Cz} (C : CX shM α D cA z RX11 cX11_goings 8 (some .int) 4 90) : ∀ (n : Nat) (x2 : Int32) (x3 : Int32) (x4 : Int32) (σ : St), RX emI shM α D cA z 8 σ 59 [(0, .ref (α 0)), (2, .int x2), (3, .int x3), (4, .int x4)] [] (f_X11_goings_59 n x2 x3 x4 σ) := by
  intro n
  induction n with
  | zero => intros; exact rx_none
  | succ n hk_59 =>
    intro x2 x3 x4 σ
    rw [f_X11_goings_59.eq_2]
    refine rx_iload C 3 dX11_goings_59 rfl ?_
    refine rx_iconst C dX11_goings_61 ic_1 ?_
    refine rx_aload_n C 0 dX11_goings_62 rfl rfl ?_
    refine rx_getC C (k := 14) sm_0 fc_X11 (by decide) 3 rfl lk_X11_54 dX11_goings_63 ?_
    refine rx_aload_n C 0 dX11_goings_66 rfl rfl ?_
    refine rx_getI C (k := 12) sm_0 fc_X11 (by decide) rfl lk_X11_48 dX11_goings_67 ?_
    refine rx_iald C (n := 2) sm_3 dX11_goings_70 (fun _ => ?_)
    refine rx_ishl C dX11_goings_71 ?_
    refine rx_icmp_ge C (tgt := 160) dX11_goings_72 (by decide) (fun _ => ?_) (fun _ => ?_)
    · refine rx_iconst C dX11_goings_160 ic_1 ?_
      refine rx_istore C [(4, .int (1 : Int32)), (0, .ref (α 0)), (2, .int x2), (3, .int x3)] dX11_goings_161 (by decide) rfl ?_
      exact RX.loc (w_X11_goings_163 C FU x2 (1 : Int32) σ) [1, 2, 0] rfl
    · refine rx_iconst C dX11_goings_75 ic_0 ?_
      refine rx_istore C [(5, .int (0 : Int32)), (0, .ref (α 0)), (2, .int x2), (3, .int x3), (4, .int x4)] dX11_goings_76 (by decide) rfl ?_
      refine rx_iconst C dX11_goings_78 ic_0 ?_
      refine rx_istore C [(6, .int (0 : Int32)), (5, .int (0 : Int32)), (0, .ref (α 0)), (2, .int x2), (3, .int x3), (4, .int x4)] dX11_goings_79 (by decide) rfl ?_
      exact RX.loc (w_X11_goings_81 C (f_X11_goings_59 n) hk_59 FU x2 x3 x4 (0 : Int32) (0 : Int32) σ) [2, 3, 4, 5, 1, 0] rfl
set_option maxRecDepth 100000 in
set_option maxHeartbeats 4000000 in
theorem w_X11_goings_e {α : Nat → Nat} {D : va_G} {cA : Nat → ClassId} {z : Cz} (C : CX shM α D cA z RX11 cX11_goings 8 (some .int) 4 90) (x1 : Int32) (x2 : Int32) (σ : St) : RX emI shM α D cA z 8 σ 0 [(0, .ref (α 0)), (1, .int x1), (2, .int x2)] [] (f_X11_goings x1 x2 σ) := by
  unfold f_X11_goings
  refine rx_iload_n C 1 dX11_goings_0 rfl rfl ?_
  refine rx_iconst C dX11_goings_1 ic_0 ?_
  refine rx_aload_n C 0 dX11_goings_2 rfl rfl ?_
  refine rx_getC C (k := 31) sm_0 fc_X11 (by decide) 20 rfl lk_X11_106 dX11_goings_3 ?_
  refine rx_aload_n C 0 dX11_goings_6 rfl rfl ?_
  refine rx_getI C (k := 12) sm_0 fc_X11 (by decide) rfl lk_X11_48 dX11_goings_7 ?_
  refine rx_iald C (n := 2) sm_20 dX11_goings_10 (fun _ => ?_)
  refine rx_iconst C dX11_goings_11 ic_1 ?_
  refine rx_isub C dX11_goings_12 ?_
  refine rx_callSi C [.int x1, .int (0 : Int32), .int ((gI σ 20 (ix (gI σ 0 12))) - (1 : Int32))] [] (m_X11_is z.l C.inj x1 (0 : Int32) ((gI σ 20 (ix (gI σ 0 12))) - (1 : Int32)) σ) ms_X11_is lk_X11_309 rfl rfl (Nat.le_of_ble_eq_true rfl) ⟨Nat.le_of_ble_eq_true rfl, Nat.le_of_ble_eq_true rfl⟩ dX11_goings_13 (fun q12 => ?_)
  refine rx_if_eq C (tgt := 40) dX11_goings_16 (by decide) (fun _ => ?_) (fun _ => ?_)
  · exact RX.loc (w_X11_goings_40 C q12.2) [] rfl
  · refine rx_iload_n C 2 dX11_goings_19 rfl rfl ?_
    refine rx_iconst C dX11_goings_20 ic_0 ?_
    refine rx_iconst C dX11_goings_21 ic_1 ?_
    refine rx_aload_n C 0 dX11_goings_22 rfl rfl ?_
    refine rx_getC C (k := 14) sm_0 fc_X11 (by decide) 3 rfl lk_X11_54 dX11_goings_23 ?_
    refine rx_aload_n C 0 dX11_goings_26 rfl rfl ?_
    refine rx_getI C (k := 12) sm_0 fc_X11 (by decide) rfl lk_X11_48 dX11_goings_27 ?_
    refine rx_iald C (n := 2) sm_3 dX11_goings_30 (fun _ => ?_)
    refine rx_ishl C dX11_goings_31 ?_
    refine rx_iconst C dX11_goings_32 ic_1 ?_
    refine rx_isub C dX11_goings_33 ?_
    refine rx_callSi C [.int x2, .int (0 : Int32), .int (((1 : Int32) <<< ((gI q12.2 3 (ix (gI q12.2 0 12))) &&& 31)) - (1 : Int32))] [] (m_X11_is z.l C.inj x2 (0 : Int32) (((1 : Int32) <<< ((gI q12.2 3 (ix (gI q12.2 0 12))) &&& 31)) - (1 : Int32)) q12.2) ms_X11_is lk_X11_309 rfl rfl (Nat.le_of_ble_eq_true rfl) ⟨Nat.le_of_ble_eq_true rfl, Nat.le_of_ble_eq_true rfl⟩ dX11_goings_34 (fun q13 => ?_)
    refine rx_if_ne C (tgt := 42) dX11_goings_37 (by decide) (fun _ => ?_) (fun _ => ?_)
    · exact RX.loc (w_X11_goings_40 C q13.2) [] rfl
    · refine rx_aload_n C 0 dX11_goings_42 rfl rfl ?_
      refine rx_getC C (k := 33) sm_0 fc_X11 (by decide) 22 rfl lk_X11_112 dX11_goings_43 ?_
      refine rx_iconst C dX11_goings_46 ic_4 ?_
      refine rx_aload_n C 0 dX11_goings_47 rfl rfl ?_
      refine rx_getI C (k := 12) sm_0 fc_X11 (by decide) rfl lk_X11_48 dX11_goings_48 ?_
      refine rx_imul C dX11_goings_51 ?_
      refine rx_iload_n C 1 dX11_goings_52 rfl rfl ?_
      refine rx_iadd C dX11_goings_53 ?_
      refine rx_iald C (n := 8) sm_22 dX11_goings_54 (fun _ => ?_)
      refine rx_lti (fun w14 => ?_)
      refine rx_istore_n C [(3, .int w14), (0, .ref (α 0)), (1, .int x1), (2, .int x2)] dX11_goings_55 rfl (by decide) rfl ?_
      refine rx_iconst C dX11_goings_56 ic_0 ?_
      refine rx_istore C [(4, .int (0 : Int32)), (3, .int w14), (0, .ref (α 0)), (1, .int x1), (2, .int x2)] dX11_goings_57 (by decide) rfl ?_
      exact RX.loc (w_X11_goings_59 C FU x2 w14 (0 : Int32) q13.2) [2, 4, 1, 0] rfl
theorem m_X11_goings (l : Launch) {α : Nat → Nat} {D : va_G} {cA : Nat → ClassId} (hin : inj shM.length α) (x1 : Int32) (x2 : Int32) (σ : St) : CT shM l yX11_goings cX11_goings 8 (some .int) 4 90 emI α D cA [.ref (α 0), .int x1, .int x2] σ (f_X11_goings x1 x2 σ) := ct_of rfl (Nat.le_of_ble_eq_true rfl) hin (fun z _ C => w_X11_goings_e C x1 x2 σ)
set_option maxRecDepth 100000 in
set_option maxHeartbeats 4000000 in
theorem w_X11_common_21 {α : Nat → Nat} {D : va_G} {cA : Nat → ClassId} {z : Cz} (C : CX shM α D cA z RX11 cX11_common 7 (some .int) 2 49) (σ : St) : RX emI shM α D cA z 7 σ 21 [] [] (f_X11_common_21 σ) := by
  unfold f_X11_common_21
  refine rx_iconst C dX11_common_21 ic_m1 ?_
  exact rx_iret C dX11_common_22
set_option maxRecDepth 100000 in
set_option maxHeartbeats 4000000 in
theorem w_X11_common_74 {α : Nat → Nat} {D : va_G} {cA : Nat → ClassId} {z : Cz} (C : CX shM α D cA z RX11 cX11_common 7 (some .int) 2 49) (k_28 : Int32 → Int32 → Int32 → Int32 → St → Option (Int32 × St)) (hk_28 : ∀ (x1 : Int32) (x2 : Int32) (x3 : Int32) (x4 : Int32) (σ : St), RX emI shM α D cA z 7 σ 28 [(0, .ref (α 0)), (1, .int x1), (2, .int x2), (3, .int x3), (4, .int x4)] [] (k_28 x1 x2 x3 x4 σ)) (x1 : Int32) (x2 : Int32) (x4 : Int32) (s2 : Int32) (s1 : Int32) (s0 : Int32) (σ : St) : RX emI shM α D cA z 7 σ 74 [(0, .ref (α 0)), (1, .int x1), (2, .int x2), (4, .int x4)] [.int s2, .int s1, .int s0] (f_X11_common_74 k_28 x1 x2 x4 s2 s1 s0 σ) := by
  unfold f_X11_common_74
  refine rx_imul C dX11_common_74 ?_
  refine rx_iadd C dX11_common_75 ?_
  refine rx_lti (fun w12 => ?_)
  refine rx_istore_n C [(3, .int w12), (0, .ref (α 0)), (1, .int x1), (2, .int x2), (4, .int x4)] dX11_common_76 rfl (by decide) rfl ?_
  refine rx_iinc C (k0 := 4) (v := x4 + (1 : Int32)) [(4, .int (x4 + (1 : Int32))), (3, .int w12), (0, .ref (α 0)), (1, .int x1), (2, .int x2)] dX11_common_77 rfl (congrArg _ ic_1) (by decide) rfl ?_
  refine rx_goto C (tgt := 28) dX11_common_80 (by decide) ?_
  exact RX.loc (hk_28 x1 x2 w12 (x4 + (1 : Int32)) σ) [2, 3, 4, 1, 0] rfl
set_option maxRecDepth 100000 in
set_option maxHeartbeats 4000000 in
theorem w_X11_common_28 {α : Nat → Nat} {D : va_G} {cA : Nat → ClassId} {z : Cz} (C : CX shM α D cA z RX11 cX11_common 7 (some .int) 2 49) : ∀ (n : Nat) (x1 : Int32) (x2 : Int32) (x3 : Int32) (x4 : Int32) (σ : St), RX emI shM α D cA z 7 σ 28 [(0, .ref (α 0)), (1, .int x1), (2, .int x2), (3, .int x3), (4, .int x4)] [] (f_X11_common_28 n x1 x2 x3 x4 σ) := by
  intro n
  induction n with
  | zero => intros; exact rx_none
  | succ n hk_28 =>
    intro x1 x2 x3 x4 σ
    rw [f_X11_common_28.eq_2]
    refine rx_iload C 4 dX11_common_28 rfl ?_
    refine rx_bipush C dX11_common_30 bp_26 ?_
    refine rx_icmp_ge C (tgt := 83) dX11_common_32 (by decide) (fun _ => ?_) (fun _ => ?_)
    · refine rx_iload_n C 3 dX11_common_83 rfl rfl ?_
      exact rx_iret C dX11_common_84
    · refine rx_aload_n C 0 dX11_common_35 rfl rfl ?_
      refine rx_iload_n C 1 dX11_common_36 rfl rfl ?_
      refine rx_iload C 4 dX11_common_37 rfl ?_
      refine rx_callVi C [.int x1, .int x4] [] (m_X11_allOf z.l C.inj x1 x4 σ) mv_X11_allOf lk_X11_480 sm_0 rfl rfl rfl (Nat.le_of_ble_eq_true rfl) ⟨Nat.le_of_ble_eq_true rfl, Nat.le_of_ble_eq_true rfl⟩ dX11_common_39 (fun q9 => ?_)
      refine rx_istore C [(5, .int q9.1), (0, .ref (α 0)), (1, .int x1), (2, .int x2), (3, .int x3), (4, .int x4)] dX11_common_42 (by decide) rfl ?_
      refine rx_aload_n C 1 dX11_common_44 rfl rfl ?_
      refine rx_iload_n C 3 dX11_common_45 rfl rfl ?_
      refine rx_iload C 5 dX11_common_46 rfl ?_
      refine rx_callVi C [.int x2, .int x4] [] (m_X11_allOf z.l C.inj x2 x4 q9.2) mv_X11_allOf lk_X11_480 sm_0 rfl rfl rfl (Nat.le_of_ble_eq_true rfl) ⟨Nat.le_of_ble_eq_true rfl, Nat.le_of_ble_eq_true rfl⟩ dX11_common_48 (fun q10 => ?_)
      refine rx_istore C [(6, .int q10.1), (5, .int q9.1), (0, .ref (α 0)), (1, .int x1), (2, .int x2), (3, .int x3), (4, .int x4)] dX11_common_51 (by decide) rfl ?_
      refine rx_iload_n C 5 dX11_common_53 rfl rfl ?_
      refine rx_aload_n C 2 dX11_common_54 rfl rfl ?_
      refine rx_iload C 6 dX11_common_55 rfl ?_
      refine rx_callVi C [.int x4] [.int x3] (m_X11_weight z.l C.inj x4 q10.2) mv_X11_weight lk_X11_433 sm_0 rfl rfl rfl (Nat.le_of_ble_eq_true rfl) ⟨Nat.le_of_ble_eq_true rfl, Nat.le_of_ble_eq_true rfl⟩ dX11_common_57 (fun q11 => ?_)
      refine rx_iload C 1 dX11_common_60 rfl ?_
      refine rx_iload C 0 dX11_common_62 rfl ?_
      refine rx_icmp_ge C (tgt := 72) dX11_common_64 (by decide) (fun _ => ?_) (fun _ => ?_)
      · refine rx_iload C 0 dX11_common_72 rfl ?_
        exact RX.loc (w_X11_common_74 C (f_X11_common_28 n) hk_28 x1 x2 x4 q10.1 q11.1 x3 q11.2) [2, 3, 4, 6] rfl
      · refine rx_iload C 1 dX11_common_67 rfl ?_
        refine rx_goto C (tgt := 74) dX11_common_69 (by decide) ?_
        exact RX.loc (w_X11_common_74 C (f_X11_common_28 n) hk_28 x1 x2 x4 q9.1 q11.1 x3 q11.2) [2, 3, 4, 6] rfl
set_option maxRecDepth 100000 in
set_option maxHeartbeats 4000000 in
theorem w_X11_common_e {α : Nat → Nat} {D : va_G} {cA : Nat → ClassId} {z : Cz} (C : CX shM α D cA z RX11 cX11_common 7 (some .int) 2 49) (x1 : Int32) (x2 : Int32) (σ : St) : RX emI shM α D cA z 7 σ 0 [(0, .ref (α 0)), (1, .int x1), (2, .int x2)] [] (f_X11_common x1 x2 σ) := by
  unfold f_X11_common
  refine rx_aload_n C 0 dX11_common_0 rfl rfl ?_
  refine rx_iload_n C 1 dX11_common_1 rfl rfl ?_
  refine rx_callVi C [.int x1] [] (m_X11_isPerson z.l C.inj x1 σ) mv_X11_isPerson lk_X11_483 sm_0 rfl rfl rfl (Nat.le_of_ble_eq_true rfl) ⟨Nat.le_of_ble_eq_true rfl, Nat.le_of_ble_eq_true rfl⟩ dX11_common_2 (fun q7 => ?_)
  refine rx_if_eq C (tgt := 21) dX11_common_5 (by decide) (fun _ => ?_) (fun _ => ?_)
  · exact RX.loc (w_X11_common_21 C q7.2) [] rfl
  · refine rx_aload_n C 0 dX11_common_8 rfl rfl ?_
    refine rx_iload_n C 2 dX11_common_9 rfl rfl ?_
    refine rx_callVi C [.int x2] [] (m_X11_isPerson z.l C.inj x2 q7.2) mv_X11_isPerson lk_X11_483 sm_0 rfl rfl rfl (Nat.le_of_ble_eq_true rfl) ⟨Nat.le_of_ble_eq_true rfl, Nat.le_of_ble_eq_true rfl⟩ dX11_common_10 (fun q8 => ?_)
    refine rx_if_eq C (tgt := 21) dX11_common_13 (by decide) (fun _ => ?_) (fun _ => ?_)
    · exact RX.loc (w_X11_common_21 C q8.2) [] rfl
    · refine rx_iload_n C 1 dX11_common_16 rfl rfl ?_
      refine rx_iload_n C 2 dX11_common_17 rfl rfl ?_
      refine rx_icmp_ne C (tgt := 23) dX11_common_18 (by decide) (fun _ => ?_) (fun _ => ?_)
      · exact RX.loc (w_X11_common_21 C q8.2) [] rfl
      · refine rx_iconst C dX11_common_23 ic_0 ?_
        refine rx_istore_n C [(3, .int (0 : Int32)), (0, .ref (α 0)), (1, .int x1), (2, .int x2)] dX11_common_24 rfl (by decide) rfl ?_
        refine rx_iconst C dX11_common_25 ic_0 ?_
        refine rx_istore C [(4, .int (0 : Int32)), (3, .int (0 : Int32)), (0, .ref (α 0)), (1, .int x1), (2, .int x2)] dX11_common_26 (by decide) rfl ?_
        exact RX.loc (w_X11_common_28 C FU x1 x2 (0 : Int32) (0 : Int32) q8.2) [2, 3, 4, 1, 0] rfl
theorem m_X11_common (l : Launch) {α : Nat → Nat} {D : va_G} {cA : Nat → ClassId} (hin : inj shM.length α) (x1 : Int32) (x2 : Int32) (σ : St) : CT shM l yX11_common cX11_common 7 (some .int) 2 49 emI α D cA [.ref (α 0), .int x1, .int x2] σ (f_X11_common x1 x2 σ) := ct_of rfl (Nat.le_of_ble_eq_true rfl) hin (fun z _ C => w_X11_common_e C x1 x2 σ)
set_option maxRecDepth 100000 in
set_option maxHeartbeats 4000000 in
theorem w_X11_writes_e {α : Nat → Nat} {D : va_G} {cA : Nat → ClassId} {z : Cz} (C : CX shM α D cA z RX11 cX11_writes 2 none 0 0) (x1 : Int32) (σ : St) : RX emV shM α D cA z 2 σ 0 [(0, .ref (α 0)), (1, .int x1)] [] (f_X11_writes x1 σ) := by
  unfold f_X11_writes
  refine rx_aload_n C 0 dX11_writes_0 rfl rfl ?_
  refine rx_getC C (k := 71) sm_0 fc_X11 (by decide) 45 rfl lk_X11_228 dX11_writes_1 ?_
  refine rx_aload_n C 0 dX11_writes_4 rfl rfl ?_
  refine rx_getI C (k := 72) sm_0 fc_X11 (by decide) rfl lk_X11_231 dX11_writes_5 ?_
  refine rx_iload_n C 1 dX11_writes_8 rfl rfl ?_
  refine rx_sipush C dX11_writes_9 sp_255 ?_
  refine rx_iand C dX11_writes_12 ?_
  refine rx_iast C (n := 600) sm_45 dX11_writes_13 (fun _ => ?_)
  refine rx_lts (fun σ3 => ?_)
  refine rx_aload_n C 0 dX11_writes_14 rfl rfl ?_
  refine rx_dup C dX11_writes_15 rfl ?_
  refine rx_getI C (k := 72) sm_0 fc_X11 (by decide) rfl lk_X11_231 dX11_writes_16 ?_
  refine rx_iconst C dX11_writes_19 ic_1 ?_
  refine rx_iadd C dX11_writes_20 ?_
  refine rx_putI C (k := 72) sm_0 fc_X11 (by decide) rfl lk_X11_231 rfl ⟨rfl, rfl⟩ dX11_writes_21 ?_
  refine rx_lts (fun σ4 => ?_)
  exact rx_vret C dX11_writes_24
theorem m_X11_writes (l : Launch) {α : Nat → Nat} {D : va_G} {cA : Nat → ClassId} (hin : inj shM.length α) (x1 : Int32) (σ : St) : CT shM l yX11_writes cX11_writes 2 none 0 0 emV α D cA [.ref (α 0), .int x1] σ (f_X11_writes x1 σ) := ct_of rfl (Nat.le_of_ble_eq_true rfl) hin (fun z _ C => w_X11_writes_e C x1 σ)
set_option maxRecDepth 100000 in
set_option maxHeartbeats 4000000 in
theorem w_X11_writes2_e {α : Nat → Nat} {D : va_G} {cA : Nat → ClassId} {z : Cz} (C : CX shM α D cA z RX11 cX11_writes2 2 none 1 21) (x1 : Int32) (σ : St) : RX emV shM α D cA z 2 σ 0 [(0, .ref (α 0)), (1, .int x1)] [] (f_X11_writes2 x1 σ) := by
  unfold f_X11_writes2
  refine rx_aload_n C 0 dX11_writes2_0 rfl rfl ?_
  refine rx_iload_n C 1 dX11_writes2_1 rfl rfl ?_
  refine rx_bipush C dX11_writes2_2 bp_8 ?_
  refine rx_ishr C dX11_writes2_4 ?_
  refine rx_callVv C [.int (x1 >>> ((8 : Int32) &&& 31))] [] (m_X11_writes z.l C.inj (x1 >>> ((8 : Int32) &&& 31)) σ) mv_X11_writes lk_X11_579 sm_0 rfl rfl rfl (Nat.le_of_ble_eq_true rfl) ⟨Nat.le_of_ble_eq_true rfl, Nat.le_of_ble_eq_true rfl⟩ dX11_writes2_5 (fun q3 => ?_)
  refine rx_aload_n C 0 dX11_writes2_8 rfl rfl ?_
  refine rx_iload_n C 1 dX11_writes2_9 rfl rfl ?_
  refine rx_callVv C [.int x1] [] (m_X11_writes z.l C.inj x1 q3.2) mv_X11_writes lk_X11_579 sm_0 rfl rfl rfl (Nat.le_of_ble_eq_true rfl) ⟨Nat.le_of_ble_eq_true rfl, Nat.le_of_ble_eq_true rfl⟩ dX11_writes2_10 (fun q4 => ?_)
  exact rx_vret C dX11_writes2_13
theorem m_X11_writes2 (l : Launch) {α : Nat → Nat} {D : va_G} {cA : Nat → ClassId} (hin : inj shM.length α) (x1 : Int32) (σ : St) : CT shM l yX11_writes2 cX11_writes2 2 none 1 21 emV α D cA [.ref (α 0), .int x1] σ (f_X11_writes2 x1 σ) := ct_of rfl (Nat.le_of_ble_eq_true rfl) hin (fun z _ C => w_X11_writes2_e C x1 σ)
set_option maxRecDepth 100000 in
set_option maxHeartbeats 4000000 in
theorem w_X11_image_159 {α : Nat → Nat} {D : va_G} {cA : Nat → ClassId} {z : Cz} (C : CX shM α D cA z RX11 cX11_image 3 (some .int) 2 42) : ∀ (n : Nat) (x1 : Int32) (x2 : Int32) (σ : St), RX emI shM α D cA z 3 σ 159 [(0, .ref (α 0)), (1, .int x1), (2, .int x2)] [] (f_X11_image_159 n x1 x2 σ) := by
  intro n
  induction n with
  | zero => intros; exact rx_none
  | succ n hk_159 =>
    intro x1 x2 σ
    rw [f_X11_image_159.eq_2]
    refine rx_iload_n C 2 dX11_image_159 rfl rfl ?_
    refine rx_aload_n C 0 dX11_image_160 rfl rfl ?_
    refine rx_getI C (k := 72) sm_0 fc_X11 (by decide) rfl lk_X11_231 dX11_image_161 ?_
    refine rx_icmp_ge C (tgt := 188) dX11_image_164 (by decide) (fun _ => ?_) (fun _ => ?_)
    · refine rx_aload_n C 0 dX11_image_188 rfl rfl ?_
      refine rx_iload_n C 1 dX11_image_189 rfl rfl ?_
      refine rx_callVv C [.int x1] [] (m_X11_writes z.l C.inj x1 σ) mv_X11_writes lk_X11_579 sm_0 rfl rfl rfl (Nat.le_of_ble_eq_true rfl) ⟨Nat.le_of_ble_eq_true rfl, Nat.le_of_ble_eq_true rfl⟩ dX11_image_190 (fun q17 => ?_)
      refine rx_aload_n C 0 dX11_image_193 rfl rfl ?_
      refine rx_getI C (k := 72) sm_0 fc_X11 (by decide) rfl lk_X11_231 dX11_image_194 ?_
      exact rx_iret C dX11_image_197
    · refine rx_iconst C dX11_image_167 ic_3 ?_
      refine rx_iload_n C 1 dX11_image_168 rfl rfl ?_
      refine rx_imul C dX11_image_169 ?_
      refine rx_aload_n C 0 dX11_image_170 rfl rfl ?_
      refine rx_getC C (k := 71) sm_0 fc_X11 (by decide) 45 rfl lk_X11_228 dX11_image_171 ?_
      refine rx_iload_n C 2 dX11_image_174 rfl rfl ?_
      refine rx_iald C (n := 600) sm_45 dX11_image_175 (fun _ => ?_)
      refine rx_iadd C dX11_image_176 ?_
      refine rx_sipush C dX11_image_177 sp_239 ?_
      refine rx_iremC C dX11_image_180 (by decide) ?_
      refine rx_lti (fun w18 => ?_)
      refine rx_istore_n C [(1, .int w18), (0, .ref (α 0)), (2, .int x2)] dX11_image_181 rfl (by decide) rfl ?_
      refine rx_iinc C (k0 := 2) (v := x2 + (1 : Int32)) [(2, .int (x2 + (1 : Int32))), (1, .int w18), (0, .ref (α 0))] dX11_image_182 rfl (congrArg _ ic_1) (by decide) rfl ?_
      refine rx_goto C (tgt := 159) dX11_image_185 (by decide) ?_
      exact RX.loc (hk_159 w18 (x2 + (1 : Int32)) σ) [2, 1, 0] rfl
set_option maxRecDepth 100000 in
set_option maxHeartbeats 4000000 in
theorem w_X11_image_130 {α : Nat → Nat} {D : va_G} {cA : Nat → ClassId} {z : Cz} (C : CX shM α D cA z RX11 cX11_image 3 (some .int) 2 42) : ∀ (n : Nat) (x1 : Int32) (σ : St), RX emI shM α D cA z 3 σ 130 [(0, .ref (α 0)), (1, .int x1)] [] (f_X11_image_130 n x1 σ) := by
  intro n
  induction n with
  | zero => intros; exact rx_none
  | succ n hk_130 =>
    intro x1 σ
    rw [f_X11_image_130.eq_2]
    refine rx_iload_n C 1 dX11_image_130 rfl rfl ?_
    refine rx_aload_n C 0 dX11_image_131 rfl rfl ?_
    refine rx_getI C (k := 60) sm_0 fc_X11 (by decide) rfl lk_X11_195 dX11_image_132 ?_
    refine rx_icmp_ge C (tgt := 154) dX11_image_135 (by decide) (fun _ => ?_) (fun _ => ?_)
    · refine rx_bipush C dX11_image_154 bp_41 ?_
      refine rx_istore_n C [(1, .int (41 : Int32)), (0, .ref (α 0))] dX11_image_156 rfl (by decide) rfl ?_
      refine rx_iconst C dX11_image_157 ic_0 ?_
      refine rx_istore_n C [(2, .int (0 : Int32)), (1, .int (41 : Int32)), (0, .ref (α 0))] dX11_image_158 rfl (by decide) rfl ?_
      exact RX.loc (w_X11_image_159 C FU (41 : Int32) (0 : Int32) σ) [2, 1, 0] rfl
    · refine rx_aload_n C 0 dX11_image_138 rfl rfl ?_
      refine rx_aload_n C 0 dX11_image_139 rfl rfl ?_
      refine rx_getC C (k := 61) sm_0 fc_X11 (by decide) 40 rfl lk_X11_198 dX11_image_140 ?_
      refine rx_iload_n C 1 dX11_image_143 rfl rfl ?_
      refine rx_iald C (n := 30) sm_40 dX11_image_144 (fun _ => ?_)
      refine rx_callVv C [.int (gI σ 40 (ix x1))] [] (m_X11_writes2 z.l C.inj (gI σ 40 (ix x1)) σ) mv_X11_writes2 lk_X11_582 sm_0 rfl rfl rfl (Nat.le_of_ble_eq_true rfl) ⟨Nat.le_of_ble_eq_true rfl, Nat.le_of_ble_eq_true rfl⟩ dX11_image_145 (fun q19 => ?_)
      refine rx_iinc C (k0 := 1) (v := x1 + (1 : Int32)) [(1, .int (x1 + (1 : Int32))), (0, .ref (α 0))] dX11_image_148 rfl (congrArg _ ic_1) (by decide) rfl ?_
      refine rx_goto C (tgt := 130) dX11_image_151 (by decide) ?_
      exact RX.loc (hk_130 (x1 + (1 : Int32)) q19.2) [1, 0] rfl
set_option maxRecDepth 100000 in
set_option maxHeartbeats 4000000 in
theorem w_X11_image_75 {α : Nat → Nat} {D : va_G} {cA : Nat → ClassId} {z : Cz} (C : CX shM α D cA z RX11 cX11_image 3 (some .int) 2 42) : ∀ (n : Nat) (x1 : Int32) (σ : St), RX emI shM α D cA z 3 σ 75 [(0, .ref (α 0)), (1, .int x1)] [] (f_X11_image_75 n x1 σ) := by
  intro n
  induction n with
  | zero => intros; exact rx_none
  | succ n hk_75 =>
    intro x1 σ
    rw [f_X11_image_75.eq_2]
    refine rx_iload_n C 1 dX11_image_75 rfl rfl ?_
    refine rx_bipush C dX11_image_76 bp_26 ?_
    refine rx_icmp_ge C (tgt := 101) dX11_image_78 (by decide) (fun _ => ?_) (fun _ => ?_)
    · refine rx_aload_n C 0 dX11_image_101 rfl rfl ?_
      refine rx_aload_n C 0 dX11_image_102 rfl rfl ?_
      refine rx_getI C (k := 55) sm_0 fc_X11 (by decide) rfl lk_X11_180 dX11_image_103 ?_
      refine rx_bipush C dX11_image_106 bp_16 ?_
      refine rx_ishr C dX11_image_108 ?_
      refine rx_callVv C [.int ((gI σ 0 55) >>> ((16 : Int32) &&& 31))] [] (m_X11_writes z.l C.inj ((gI σ 0 55) >>> ((16 : Int32) &&& 31)) σ) mv_X11_writes lk_X11_579 sm_0 rfl rfl rfl (Nat.le_of_ble_eq_true rfl) ⟨Nat.le_of_ble_eq_true rfl, Nat.le_of_ble_eq_true rfl⟩ dX11_image_109 (fun q14 => ?_)
      refine rx_aload_n C 0 dX11_image_112 rfl rfl ?_
      refine rx_aload_n C 0 dX11_image_113 rfl rfl ?_
      refine rx_getI C (k := 55) sm_0 fc_X11 (by decide) rfl lk_X11_180 dX11_image_114 ?_
      refine rx_callVv C [.int (gI q14.2 0 55)] [] (m_X11_writes2 z.l C.inj (gI q14.2 0 55) q14.2) mv_X11_writes2 lk_X11_582 sm_0 rfl rfl rfl (Nat.le_of_ble_eq_true rfl) ⟨Nat.le_of_ble_eq_true rfl, Nat.le_of_ble_eq_true rfl⟩ dX11_image_117 (fun q15 => ?_)
      refine rx_aload_n C 0 dX11_image_120 rfl rfl ?_
      refine rx_aload_n C 0 dX11_image_121 rfl rfl ?_
      refine rx_getI C (k := 60) sm_0 fc_X11 (by decide) rfl lk_X11_195 dX11_image_122 ?_
      refine rx_callVv C [.int (gI q15.2 0 60)] [] (m_X11_writes z.l C.inj (gI q15.2 0 60) q15.2) mv_X11_writes lk_X11_579 sm_0 rfl rfl rfl (Nat.le_of_ble_eq_true rfl) ⟨Nat.le_of_ble_eq_true rfl, Nat.le_of_ble_eq_true rfl⟩ dX11_image_125 (fun q16 => ?_)
      refine rx_iconst C dX11_image_128 ic_0 ?_
      refine rx_istore_n C [(1, .int (0 : Int32)), (0, .ref (α 0))] dX11_image_129 rfl (by decide) rfl ?_
      exact RX.loc (w_X11_image_130 C FU (0 : Int32) q16.2) [1, 0] rfl
    · refine rx_aload_n C 0 dX11_image_81 rfl rfl ?_
      refine rx_aload_n C 0 dX11_image_82 rfl rfl ?_
      refine rx_getC C (k := 54) sm_0 fc_X11 (by decide) 36 rfl lk_X11_177 dX11_image_83 ?_
      refine rx_sipush C dX11_image_86 sp_208 ?_
      refine rx_iload_n C 1 dX11_image_89 rfl rfl ?_
      refine rx_iadd C dX11_image_90 ?_
      refine rx_iald C (n := 234) sm_36 dX11_image_91 (fun _ => ?_)
      refine rx_callVv C [.int (gI σ 36 (ix ((208 : Int32) + x1)))] [] (m_X11_writes2 z.l C.inj (gI σ 36 (ix ((208 : Int32) + x1))) σ) mv_X11_writes2 lk_X11_582 sm_0 rfl rfl rfl (Nat.le_of_ble_eq_true rfl) ⟨Nat.le_of_ble_eq_true rfl, Nat.le_of_ble_eq_true rfl⟩ dX11_image_92 (fun q20 => ?_)
      refine rx_iinc C (k0 := 1) (v := x1 + (1 : Int32)) [(1, .int (x1 + (1 : Int32))), (0, .ref (α 0))] dX11_image_95 rfl (congrArg _ ic_1) (by decide) rfl ?_
      refine rx_goto C (tgt := 75) dX11_image_98 (by decide) ?_
      exact RX.loc (hk_75 (x1 + (1 : Int32)) q20.2) [1, 0] rfl
set_option maxRecDepth 100000 in
set_option maxHeartbeats 4000000 in
theorem w_X11_image_40 {α : Nat → Nat} {D : va_G} {cA : Nat → ClassId} {z : Cz} (C : CX shM α D cA z RX11 cX11_image 3 (some .int) 2 42) (k_15 : Int32 → St → Option (Int32 × St)) (hk_15 : ∀ (x1 : Int32) (σ : St), RX emI shM α D cA z 3 σ 15 [(0, .ref (α 0)), (1, .int x1)] [] (k_15 x1 σ)) : ∀ (n : Nat) (x1 : Int32) (x2 : Int32) (σ : St), RX emI shM α D cA z 3 σ 40 [(0, .ref (α 0)), (1, .int x1), (2, .int x2)] [] (f_X11_image_40 k_15 n x1 x2 σ) := by
  intro n
  induction n with
  | zero => intros; exact rx_none
  | succ n hk_40 =>
    intro x1 x2 σ
    rw [f_X11_image_40.eq_2]
    refine rx_iload_n C 2 dX11_image_40 rfl rfl ?_
    refine rx_bipush C dX11_image_41 bp_26 ?_
    refine rx_icmp_ge C (tgt := 67) dX11_image_43 (by decide) (fun _ => ?_) (fun _ => ?_)
    · refine rx_iinc C (k0 := 1) (v := x1 + (1 : Int32)) [(1, .int (x1 + (1 : Int32))), (0, .ref (α 0)), (2, .int x2)] dX11_image_67 rfl (congrArg _ ic_1) (by decide) rfl ?_
      refine rx_goto C (tgt := 15) dX11_image_70 (by decide) ?_
      exact RX.loc (hk_15 (x1 + (1 : Int32)) σ) [1, 0] rfl
    · refine rx_aload_n C 0 dX11_image_46 rfl rfl ?_
      refine rx_aload_n C 0 dX11_image_47 rfl rfl ?_
      refine rx_getC C (k := 54) sm_0 fc_X11 (by decide) 36 rfl lk_X11_177 dX11_image_48 ?_
      refine rx_bipush C dX11_image_51 bp_26 ?_
      refine rx_iload_n C 1 dX11_image_53 rfl rfl ?_
      refine rx_imul C dX11_image_54 ?_
      refine rx_iload_n C 2 dX11_image_55 rfl rfl ?_
      refine rx_iadd C dX11_image_56 ?_
      refine rx_iald C (n := 234) sm_36 dX11_image_57 (fun _ => ?_)
      refine rx_callVv C [.int (gI σ 36 (ix (((26 : Int32) * x1) + x2)))] [] (m_X11_writes2 z.l C.inj (gI σ 36 (ix (((26 : Int32) * x1) + x2))) σ) mv_X11_writes2 lk_X11_582 sm_0 rfl rfl rfl (Nat.le_of_ble_eq_true rfl) ⟨Nat.le_of_ble_eq_true rfl, Nat.le_of_ble_eq_true rfl⟩ dX11_image_58 (fun q22 => ?_)
      refine rx_iinc C (k0 := 2) (v := x2 + (1 : Int32)) [(2, .int (x2 + (1 : Int32))), (0, .ref (α 0)), (1, .int x1)] dX11_image_61 rfl (congrArg _ ic_1) (by decide) rfl ?_
      refine rx_goto C (tgt := 40) dX11_image_64 (by decide) ?_
      exact RX.loc (hk_40 x1 (x2 + (1 : Int32)) q22.2) [1, 2, 0] rfl
set_option maxRecDepth 100000 in
set_option maxHeartbeats 4000000 in
theorem w_X11_image_15 {α : Nat → Nat} {D : va_G} {cA : Nat → ClassId} {z : Cz} (C : CX shM α D cA z RX11 cX11_image 3 (some .int) 2 42) : ∀ (n : Nat) (x1 : Int32) (σ : St), RX emI shM α D cA z 3 σ 15 [(0, .ref (α 0)), (1, .int x1)] [] (f_X11_image_15 n x1 σ) := by
  intro n
  induction n with
  | zero => intros; exact rx_none
  | succ n hk_15 =>
    intro x1 σ
    rw [f_X11_image_15.eq_2]
    refine rx_iload_n C 1 dX11_image_15 rfl rfl ?_
    refine rx_aload_n C 0 dX11_image_16 rfl rfl ?_
    refine rx_getC C (k := 14) sm_0 fc_X11 (by decide) 3 rfl lk_X11_54 dX11_image_17 ?_
    refine rx_aload_n C 0 dX11_image_20 rfl rfl ?_
    refine rx_getI C (k := 12) sm_0 fc_X11 (by decide) rfl lk_X11_48 dX11_image_21 ?_
    refine rx_iald C (n := 2) sm_3 dX11_image_24 (fun _ => ?_)
    refine rx_icmp_ge C (tgt := 73) dX11_image_25 (by decide) (fun _ => ?_) (fun _ => ?_)
    · refine rx_iconst C dX11_image_73 ic_0 ?_
      refine rx_istore_n C [(1, .int (0 : Int32)), (0, .ref (α 0))] dX11_image_74 rfl (by decide) rfl ?_
      exact RX.loc (w_X11_image_75 C FU (0 : Int32) σ) [1, 0] rfl
    · refine rx_aload_n C 0 dX11_image_28 rfl rfl ?_
      refine rx_aload_n C 0 dX11_image_29 rfl rfl ?_
      refine rx_getC C (k := 53) sm_0 fc_X11 (by decide) 35 rfl lk_X11_174 dX11_image_30 ?_
      refine rx_iload_n C 1 dX11_image_33 rfl rfl ?_
      refine rx_iald C (n := 8) sm_35 dX11_image_34 (fun _ => ?_)
      refine rx_callVv C [.int (gI σ 35 (ix x1))] [] (m_X11_writes2 z.l C.inj (gI σ 35 (ix x1)) σ) mv_X11_writes2 lk_X11_582 sm_0 rfl rfl rfl (Nat.le_of_ble_eq_true rfl) ⟨Nat.le_of_ble_eq_true rfl, Nat.le_of_ble_eq_true rfl⟩ dX11_image_35 (fun q21 => ?_)
      refine rx_iconst C dX11_image_38 ic_0 ?_
      refine rx_istore_n C [(2, .int (0 : Int32)), (0, .ref (α 0)), (1, .int x1)] dX11_image_39 rfl (by decide) rfl ?_
      exact RX.loc (w_X11_image_40 C (f_X11_image_15 n) hk_15 FU x1 (0 : Int32) q21.2) [1, 2, 0] rfl
set_option maxRecDepth 100000 in
set_option maxHeartbeats 4000000 in
theorem w_X11_image_e {α : Nat → Nat} {D : va_G} {cA : Nat → ClassId} {z : Cz} (C : CX shM α D cA z RX11 cX11_image 3 (some .int) 2 42) (σ : St) : RX emI shM α D cA z 3 σ 0 [(0, .ref (α 0))] [] (f_X11_image σ) := by
  unfold f_X11_image
  refine rx_aload_n C 0 dX11_image_0 rfl rfl ?_
  refine rx_iconst C dX11_image_1 ic_0 ?_
  refine rx_putI C (k := 72) sm_0 fc_X11 (by decide) rfl lk_X11_231 rfl ⟨rfl, rfl⟩ dX11_image_2 ?_
  refine rx_lts (fun σ12 => ?_)
  refine rx_aload_n C 0 dX11_image_5 rfl rfl ?_
  refine rx_aload_n C 0 dX11_image_6 rfl rfl ?_
  refine rx_getI C (k := 52) sm_0 fc_X11 (by decide) rfl lk_X11_171 dX11_image_7 ?_
  refine rx_callVv C [.int (gI σ12 0 52)] [] (m_X11_writes2 z.l C.inj (gI σ12 0 52) σ12) mv_X11_writes2 lk_X11_582 sm_0 rfl rfl rfl (Nat.le_of_ble_eq_true rfl) ⟨Nat.le_of_ble_eq_true rfl, Nat.le_of_ble_eq_true rfl⟩ dX11_image_10 (fun q13 => ?_)
  refine rx_iconst C dX11_image_13 ic_0 ?_
  refine rx_istore_n C [(1, .int (0 : Int32)), (0, .ref (α 0))] dX11_image_14 rfl (by decide) rfl ?_
  exact RX.loc (w_X11_image_15 C FU (0 : Int32) q13.2) [1, 0] rfl
theorem m_X11_image (l : Launch) {α : Nat → Nat} {D : va_G} {cA : Nat → ClassId} (hin : inj shM.length α) (σ : St) : CT shM l yX11_image cX11_image 3 (some .int) 2 42 emI α D cA [.ref (α 0)] σ (f_X11_image σ) := ct_of rfl (Nat.le_of_ble_eq_true rfl) hin (fun z _ C => w_X11_image_e C σ)
set_option maxRecDepth 100000 in
set_option maxHeartbeats 4000000 in
theorem w_X11_octet_22 {α : Nat → Nat} {D : va_G} {cA : Nat → ClassId} {z : Cz} (C : CX shM α D cA z RX11 cX11_octet 2 (some .int) 0 0) (s0 : Int32) (σ : St) : RX emI shM α D cA z 2 σ 22 [] [.int s0] (f_X11_octet_22 s0 σ) := by
  unfold f_X11_octet_22
  exact rx_iret C dX11_octet_22
set_option maxRecDepth 100000 in
set_option maxHeartbeats 4000000 in
theorem w_X11_octet_21 {α : Nat → Nat} {D : va_G} {cA : Nat → ClassId} {z : Cz} (C : CX shM α D cA z RX11 cX11_octet 2 (some .int) 0 0) (σ : St) : RX emI shM α D cA z 2 σ 21 [] [] (f_X11_octet_21 σ) := by
  unfold f_X11_octet_21
  refine rx_iconst C dX11_octet_21 ic_m1 ?_
  exact RX.loc (w_X11_octet_22 C (-1 : Int32) σ) [] rfl
set_option maxRecDepth 100000 in
set_option maxHeartbeats 4000000 in
theorem w_X11_octet_e {α : Nat → Nat} {D : va_G} {cA : Nat → ClassId} {z : Cz} (C : CX shM α D cA z RX11 cX11_octet 2 (some .int) 0 0) (x1 : Int32) (σ : St) : RX emI shM α D cA z 2 σ 0 [(0, .ref (α 0)), (1, .int x1)] [] (f_X11_octet x1 σ) := by
  unfold f_X11_octet
  refine rx_iload_n C 1 dX11_octet_0 rfl rfl ?_
  refine rx_if_lt C (tgt := 21) dX11_octet_1 (by decide) (fun _ => ?_) (fun _ => ?_)
  · exact RX.loc (w_X11_octet_21 C σ) [] rfl
  · refine rx_iload_n C 1 dX11_octet_4 rfl rfl ?_
    refine rx_aload_n C 0 dX11_octet_5 rfl rfl ?_
    refine rx_getI C (k := 72) sm_0 fc_X11 (by decide) rfl lk_X11_231 dX11_octet_6 ?_
    refine rx_icmp_ge C (tgt := 21) dX11_octet_9 (by decide) (fun _ => ?_) (fun _ => ?_)
    · exact RX.loc (w_X11_octet_21 C σ) [] rfl
    · refine rx_aload_n C 0 dX11_octet_12 rfl rfl ?_
      refine rx_getC C (k := 71) sm_0 fc_X11 (by decide) 45 rfl lk_X11_228 dX11_octet_13 ?_
      refine rx_iload_n C 1 dX11_octet_16 rfl rfl ?_
      refine rx_iald C (n := 600) sm_45 dX11_octet_17 (fun _ => ?_)
      refine rx_goto C (tgt := 22) dX11_octet_18 (by decide) ?_
      exact RX.loc (w_X11_octet_22 C (gI σ 45 (ix x1)) σ) [] rfl
theorem m_X11_octet (l : Launch) {α : Nat → Nat} {D : va_G} {cA : Nat → ClassId} (hin : inj shM.length α) (x1 : Int32) (σ : St) : CT shM l yX11_octet cX11_octet 2 (some .int) 0 0 emI α D cA [.ref (α 0), .int x1] σ (f_X11_octet x1 σ) := ct_of rfl (Nat.le_of_ble_eq_true rfl) hin (fun z _ C => w_X11_octet_e C x1 σ)
set_option maxRecDepth 100000 in
set_option maxHeartbeats 4000000 in
theorem w_X11_two_e {α : Nat → Nat} {D : va_G} {cA : Nat → ClassId} {z : Cz} (C : CX shM α D cA z RX11 cX11_two 2 (some .int) 0 0) (x1 : Int32) (σ : St) : RX emI shM α D cA z 2 σ 0 [(0, .ref (α 0)), (1, .int x1)] [] (f_X11_two x1 σ) := by
  unfold f_X11_two
  refine rx_sipush C dX11_two_0 sp_256 ?_
  refine rx_aload_n C 0 dX11_two_3 rfl rfl ?_
  refine rx_getC C (k := 0) sm_0 fc_X11 (by decide) 1 rfl lk_X11_7 dX11_two_4 ?_
  refine rx_iload_n C 1 dX11_two_7 rfl rfl ?_
  refine rx_iald C (n := 1800) sm_1 dX11_two_8 (fun _ => ?_)
  refine rx_imul C dX11_two_9 ?_
  refine rx_aload_n C 0 dX11_two_10 rfl rfl ?_
  refine rx_getC C (k := 0) sm_0 fc_X11 (by decide) 1 rfl lk_X11_7 dX11_two_11 ?_
  refine rx_iload_n C 1 dX11_two_14 rfl rfl ?_
  refine rx_iconst C dX11_two_15 ic_1 ?_
  refine rx_iadd C dX11_two_16 ?_
  refine rx_iald C (n := 1800) sm_1 dX11_two_17 (fun _ => ?_)
  refine rx_iadd C dX11_two_18 ?_
  exact rx_iret C dX11_two_19
theorem m_X11_two (l : Launch) {α : Nat → Nat} {D : va_G} {cA : Nat → ClassId} (hin : inj shM.length α) (x1 : Int32) (σ : St) : CT shM l yX11_two cX11_two 2 (some .int) 0 0 emI α D cA [.ref (α 0), .int x1] σ (f_X11_two x1 σ) := ct_of rfl (Nat.le_of_ble_eq_true rfl) hin (fun z _ C => w_X11_two_e C x1 σ)
set_option maxRecDepth 100000 in
set_option maxHeartbeats 4000000 in
theorem w_X11_rowAt_38 {α : Nat → Nat} {D : va_G} {cA : Nat → ClassId} {z : Cz} (C : CX shM α D cA z RX11 cX11_rowAt 6 (some .long) 1 21) (k_5 : Int32 → Int32 → Int64 → Int32 → St → Option (Int64 × St)) (hk_5 : ∀ (x1 : Int32) (x2 : Int32) (y3 : Int64) (x5 : Int32) (σ : St), RX emL shM α D cA z 6 σ 5 [(0, .ref (α 0)), (1, .int x1), (2, .int x2), (3, .long y3), (5, .int x5)] [] (k_5 x1 x2 y3 x5 σ)) (x1 : Int32) (x2 : Int32) (x5 : Int32) (s2 : Int32) (t1 : Int64) (t0 : Int64) (σ : St) : RX emL shM α D cA z 6 σ 38 [(0, .ref (α 0)), (1, .int x1), (2, .int x2), (5, .int x5)] [.int s2, .long t1, .long t0] (f_X11_rowAt_38 k_5 x1 x2 x5 s2 t1 t0 σ) := by
  unfold f_X11_rowAt_38
  refine rx_i2l C dX11_rowAt_38 ?_
  refine rx_lmul C dX11_rowAt_39 ?_
  refine rx_ladd C dX11_rowAt_40 ?_
  refine rx_ltl (fun w5 => ?_)
  refine rx_lstore_n C [(3, .long w5), (0, .ref (α 0)), (1, .int x1), (2, .int x2), (5, .int x5)] dX11_rowAt_41 rfl (by decide) rfl ?_
  refine rx_iinc C (k0 := 4) (v := x5 + (1 : Int32)) [(5, .int (x5 + (1 : Int32))), (3, .long w5), (0, .ref (α 0)), (1, .int x1), (2, .int x2)] dX11_rowAt_42 rfl (congrArg _ ic_1) (by decide) rfl ?_
  refine rx_goto C (tgt := 5) dX11_rowAt_45 (by decide) ?_
  exact RX.loc (hk_5 x1 x2 w5 (x5 + (1 : Int32)) σ) [2, 3, 4, 1, 0] rfl
set_option maxRecDepth 100000 in
set_option maxHeartbeats 4000000 in
theorem w_X11_rowAt_5 {α : Nat → Nat} {D : va_G} {cA : Nat → ClassId} {z : Cz} (C : CX shM α D cA z RX11 cX11_rowAt 6 (some .long) 1 21) : ∀ (n : Nat) (x1 : Int32) (x2 : Int32) (y3 : Int64) (x5 : Int32) (σ : St), RX emL shM α D cA z 6 σ 5 [(0, .ref (α 0)), (1, .int x1), (2, .int x2), (3, .long y3), (5, .int x5)] [] (f_X11_rowAt_5 n x1 x2 y3 x5 σ) := by
  intro n
  induction n with
  | zero => intros; exact rx_none
  | succ n hk_5 =>
    intro x1 x2 y3 x5 σ
    rw [f_X11_rowAt_5.eq_2]
    refine rx_iload C 4 dX11_rowAt_5 rfl ?_
    refine rx_bipush C dX11_rowAt_7 bp_26 ?_
    refine rx_icmp_ge C (tgt := 48) dX11_rowAt_9 (by decide) (fun _ => ?_) (fun _ => ?_)
    · refine rx_lload_n C 3 dX11_rowAt_48 rfl rfl ?_
      exact rx_lret C dX11_rowAt_49
    · refine rx_lload_n C 3 dX11_rowAt_12 rfl rfl ?_
      refine rx_aload_n C 0 dX11_rowAt_13 rfl rfl ?_
      refine rx_iload_n C 1 dX11_rowAt_14 rfl rfl ?_
      refine rx_iconst C dX11_rowAt_15 ic_2 ?_
      refine rx_iload C 4 dX11_rowAt_16 rfl ?_
      refine rx_imul C dX11_rowAt_18 ?_
      refine rx_iadd C dX11_rowAt_19 ?_
      refine rx_callVi C [.int (x1 + ((2 : Int32) * x5))] [.long y3] (m_X11_two z.l C.inj (x1 + ((2 : Int32) * x5)) σ) mv_X11_two lk_X11_585 sm_0 rfl rfl rfl (Nat.le_of_ble_eq_true rfl) ⟨Nat.le_of_ble_eq_true rfl, Nat.le_of_ble_eq_true rfl⟩ dX11_rowAt_20 (fun q4 => ?_)
      refine rx_i2l C dX11_rowAt_23 ?_
      refine rx_iload_n C 2 dX11_rowAt_24 rfl rfl ?_
      refine rx_if_eq C (tgt := 37) dX11_rowAt_25 (by decide) (fun _ => ?_) (fun _ => ?_)
      · refine rx_iconst C dX11_rowAt_37 ic_1 ?_
        exact RX.loc (w_X11_rowAt_38 C (f_X11_rowAt_5 n) hk_5 x1 x2 x5 (1 : Int32) ((q4.1).toInt64) y3 q4.2) [0, 1, 2, 4] rfl
      · refine rx_aload_n C 0 dX11_rowAt_28 rfl rfl ?_
        refine rx_iload C 4 dX11_rowAt_29 rfl ?_
        refine rx_callVi C [.int x5] [.long ((q4.1).toInt64), .long y3] (m_X11_weight z.l C.inj x5 q4.2) mv_X11_weight lk_X11_433 sm_0 rfl rfl rfl (Nat.le_of_ble_eq_true rfl) ⟨Nat.le_of_ble_eq_true rfl, Nat.le_of_ble_eq_true rfl⟩ dX11_rowAt_31 (fun q6 => ?_)
        refine rx_goto C (tgt := 38) dX11_rowAt_34 (by decide) ?_
        exact RX.loc (w_X11_rowAt_38 C (f_X11_rowAt_5 n) hk_5 x1 x2 x5 q6.1 ((q4.1).toInt64) y3 q6.2) [0, 1, 2, 4] rfl
set_option maxRecDepth 100000 in
set_option maxHeartbeats 4000000 in
theorem w_X11_rowAt_e {α : Nat → Nat} {D : va_G} {cA : Nat → ClassId} {z : Cz} (C : CX shM α D cA z RX11 cX11_rowAt 6 (some .long) 1 21) (x1 : Int32) (x2 : Int32) (σ : St) : RX emL shM α D cA z 6 σ 0 [(0, .ref (α 0)), (1, .int x1), (2, .int x2)] [] (f_X11_rowAt x1 x2 σ) := by
  unfold f_X11_rowAt
  refine rx_lconst C dX11_rowAt_0 lc_0 ?_
  refine rx_lstore_n C [(3, .long (0 : Int64)), (0, .ref (α 0)), (1, .int x1), (2, .int x2)] dX11_rowAt_1 rfl (by decide) rfl ?_
  refine rx_iconst C dX11_rowAt_2 ic_0 ?_
  refine rx_istore C [(5, .int (0 : Int32)), (3, .long (0 : Int64)), (0, .ref (α 0)), (1, .int x1), (2, .int x2)] dX11_rowAt_3 (by decide) rfl ?_
  exact RX.loc (w_X11_rowAt_5 C FU x1 x2 (0 : Int64) (0 : Int32) σ) [2, 3, 4, 1, 0] rfl
theorem m_X11_rowAt (l : Launch) {α : Nat → Nat} {D : va_G} {cA : Nat → ClassId} (hin : inj shM.length α) (x1 : Int32) (x2 : Int32) (σ : St) : CT shM l yX11_rowAt cX11_rowAt 6 (some .long) 1 21 emL α D cA [.ref (α 0), .int x1, .int x2] σ (f_X11_rowAt x1 x2 σ) := ct_of rfl (Nat.le_of_ble_eq_true rfl) hin (fun z _ C => w_X11_rowAt_e C x1 x2 σ)
set_option maxRecDepth 100000 in
set_option maxHeartbeats 4000000 in
theorem w_X11_isWhole_34 {α : Nat → Nat} {D : va_G} {cA : Nat → ClassId} {z : Cz} (C : CX shM α D cA z RX11 cX11_isWhole 12 (some .boolean) 3 69) (σ : St) : RX emI shM α D cA z 12 σ 34 [] [] (f_X11_isWhole_34 σ) := by
  unfold f_X11_isWhole_34
  refine rx_iconst C dX11_isWhole_34 ic_0 ?_
  exact rx_zretC C dX11_isWhole_35 rfl
set_option maxRecDepth 100000 in
set_option maxHeartbeats 4000000 in
theorem w_X11_isWhole_64 {α : Nat → Nat} {D : va_G} {cA : Nat → ClassId} {z : Cz} (C : CX shM α D cA z RX11 cX11_isWhole 12 (some .boolean) 3 69) (σ : St) : RX emI shM α D cA z 12 σ 64 [] [] (f_X11_isWhole_64 σ) := by
  unfold f_X11_isWhole_64
  refine rx_iconst C dX11_isWhole_64 ic_0 ?_
  exact rx_zretC C dX11_isWhole_65 rfl
set_option maxRecDepth 100000 in
set_option maxHeartbeats 4000000 in
theorem w_X11_isWhole_384 {α : Nat → Nat} {D : va_G} {cA : Nat → ClassId} {z : Cz} (C : CX shM α D cA z RX11 cX11_isWhole 12 (some .boolean) 3 69) (s0 : Int32) (σ : St) : RX emI shM α D cA z 12 σ 384 [] [.int s0] (f_X11_isWhole_384 s0 σ) := by
  unfold f_X11_isWhole_384
  exact rx_zret C dX11_isWhole_384
set_option maxRecDepth 100000 in
set_option maxHeartbeats 4000000 in
theorem w_X11_isWhole_383 {α : Nat → Nat} {D : va_G} {cA : Nat → ClassId} {z : Cz} (C : CX shM α D cA z RX11 cX11_isWhole 12 (some .boolean) 3 69) (σ : St) : RX emI shM α D cA z 12 σ 383 [] [] (f_X11_isWhole_383 σ) := by
  unfold f_X11_isWhole_383
  refine rx_iconst C dX11_isWhole_383 ic_0 ?_
  exact RX.loc (w_X11_isWhole_384 C (0 : Int32) σ) [] rfl
set_option maxRecDepth 100000 in
set_option maxHeartbeats 4000000 in
theorem w_X11_isWhole_311 {α : Nat → Nat} {D : va_G} {cA : Nat → ClassId} {z : Cz} (C : CX shM α D cA z RX11 cX11_isWhole 12 (some .boolean) 3 69) : ∀ (n : Nat) (x2 : Int32) (x3 : Int32) (y5 : Int64) (y7 : Int64) (x9 : Int32) (σ : St), RX emI shM α D cA z 12 σ 311 [(0, .ref (α 0)), (2, .int x2), (3, .int x3), (5, .long y5), (7, .long y7), (9, .int x9)] [] (f_X11_isWhole_311 n x2 x3 y5 y7 x9 σ) := by
  intro n
  induction n with
  | zero => intros; exact rx_none
  | succ n hk_311 =>
    intro x2 x3 y5 y7 x9 σ
    rw [f_X11_isWhole_311.eq_2]
    refine rx_iload C 5 dX11_isWhole_311 rfl ?_
    refine rx_iload_n C 2 dX11_isWhole_313 rfl rfl ?_
    refine rx_icmp_ge C (tgt := 361) dX11_isWhole_314 (by decide) (fun _ => ?_) (fun _ => ?_)
    · refine rx_lload C 3 dX11_isWhole_361 rfl ?_
      refine rx_ldc2_w C lk_X11_594 dX11_isWhole_363 ?_
      refine rx_lcmp C dX11_isWhole_366 ?_
      refine rx_if_gt C (tgt := 383) dX11_isWhole_367 (by decide) (fun _ => ?_) (fun _ => ?_)
      · exact RX.loc (w_X11_isWhole_383 C σ) [] rfl
      · refine rx_lload C 4 dX11_isWhole_370 rfl ?_
        refine rx_ldc2_w C lk_X11_459 dX11_isWhole_372 ?_
        refine rx_lcmp C dX11_isWhole_375 ?_
        refine rx_if_gt C (tgt := 383) dX11_isWhole_376 (by decide) (fun _ => ?_) (fun _ => ?_)
        · exact RX.loc (w_X11_isWhole_383 C σ) [] rfl
        · refine rx_iconst C dX11_isWhole_379 ic_1 ?_
          refine rx_goto C (tgt := 384) dX11_isWhole_380 (by decide) ?_
          exact RX.loc (w_X11_isWhole_384 C (1 : Int32) σ) [] rfl
    · refine rx_aload_n C 0 dX11_isWhole_317 rfl rfl ?_
      refine rx_iload_n C 1 dX11_isWhole_318 rfl rfl ?_
      refine rx_bipush C dX11_isWhole_319 bp_56 ?_
      refine rx_iadd C dX11_isWhole_321 ?_
      refine rx_iconst C dX11_isWhole_322 ic_2 ?_
      refine rx_iload C 5 dX11_isWhole_323 rfl ?_
      refine rx_imul C dX11_isWhole_325 ?_
      refine rx_iadd C dX11_isWhole_326 ?_
      refine rx_callVi C [.int ((x2 + (56 : Int32)) + ((2 : Int32) * x9))] [] (m_X11_two z.l C.inj ((x2 + (56 : Int32)) + ((2 : Int32) * x9)) σ) mv_X11_two lk_X11_585 sm_0 rfl rfl rfl (Nat.le_of_ble_eq_true rfl) ⟨Nat.le_of_ble_eq_true rfl, Nat.le_of_ble_eq_true rfl⟩ dX11_isWhole_327 (fun q27 => ?_)
      refine rx_iconst C dX11_isWhole_330 ic_1 ?_
      refine rx_icmp_ge C (tgt := 336) dX11_isWhole_331 (by decide) (fun _ => ?_) (fun _ => ?_)
      · refine rx_lload C 3 dX11_isWhole_336 rfl ?_
        refine rx_aload_n C 0 dX11_isWhole_338 rfl rfl ?_
        refine rx_iload_n C 1 dX11_isWhole_339 rfl rfl ?_
        refine rx_bipush C dX11_isWhole_340 bp_56 ?_
        refine rx_iadd C dX11_isWhole_342 ?_
        refine rx_iconst C dX11_isWhole_343 ic_2 ?_
        refine rx_iload C 5 dX11_isWhole_344 rfl ?_
        refine rx_imul C dX11_isWhole_346 ?_
        refine rx_iadd C dX11_isWhole_347 ?_
        refine rx_callVi C [.int ((x2 + (56 : Int32)) + ((2 : Int32) * x9))] [.long y5] (m_X11_two z.l C.inj ((x2 + (56 : Int32)) + ((2 : Int32) * x9)) q27.2) mv_X11_two lk_X11_585 sm_0 rfl rfl rfl (Nat.le_of_ble_eq_true rfl) ⟨Nat.le_of_ble_eq_true rfl, Nat.le_of_ble_eq_true rfl⟩ dX11_isWhole_348 (fun q28 => ?_)
        refine rx_i2l C dX11_isWhole_351 ?_
        refine rx_ladd C dX11_isWhole_352 ?_
        refine rx_ltl (fun w29 => ?_)
        refine rx_lstore C [(5, .long w29), (0, .ref (α 0)), (2, .int x2), (3, .int x3), (7, .long y7), (9, .int x9)] dX11_isWhole_353 (by decide) rfl ?_
        refine rx_iinc C (k0 := 5) (v := x9 + (1 : Int32)) [(9, .int (x9 + (1 : Int32))), (5, .long w29), (0, .ref (α 0)), (2, .int x2), (3, .int x3), (7, .long y7)] dX11_isWhole_355 rfl (congrArg _ ic_1) (by decide) rfl ?_
        refine rx_goto C (tgt := 311) dX11_isWhole_358 (by decide) ?_
        exact RX.loc (hk_311 x2 x3 w29 y7 (x9 + (1 : Int32)) q28.2) [2, 3, 4, 1, 5, 0] rfl
      · refine rx_iconst C dX11_isWhole_334 ic_0 ?_
        exact rx_zretC C dX11_isWhole_335 rfl
set_option maxRecDepth 100000 in
set_option maxHeartbeats 4000000 in
theorem w_X11_isWhole_293 {α : Nat → Nat} {D : va_G} {cA : Nat → ClassId} {z : Cz} (C : CX shM α D cA z RX11 cX11_isWhole 12 (some .boolean) 3 69) (k_164 : Int32 → Int32 → Int64 → Int64 → Int32 → St → Option (Int32 × St)) (hk_164 : ∀ (x2 : Int32) (x3 : Int32) (y5 : Int64) (y7 : Int64) (x9 : Int32) (σ : St), RX emI shM α D cA z 12 σ 164 [(0, .ref (α 0)), (2, .int x2), (3, .int x3), (5, .long y5), (7, .long y7), (9, .int x9)] [] (k_164 x2 x3 y5 y7 x9 σ)) (k_255 : Int32 → Int32 → Int64 → Int64 → Int32 → Int32 → Int32 → St → Option (Int32 × St)) (hk_255 : ∀ (x2 : Int32) (x3 : Int32) (y5 : Int64) (y7 : Int64) (x9 : Int32) (x10 : Int32) (x11 : Int32) (σ : St), RX emI shM α D cA z 12 σ 255 [(0, .ref (α 0)), (2, .int x2), (3, .int x3), (5, .long y5), (7, .long y7), (9, .int x9), (10, .int x10), (11, .int x11)] [] (k_255 x2 x3 y5 y7 x9 x10 x11 σ)) (x2 : Int32) (x3 : Int32) (y5 : Int64) (x9 : Int32) (x10 : Int32) (x11 : Int32) (t1 : Int64) (t0 : Int64) (σ : St) : RX emI shM α D cA z 12 σ 293 [(0, .ref (α 0)), (2, .int x2), (3, .int x3), (5, .long y5), (9, .int x9), (10, .int x10), (11, .int x11)] [.long t1, .long t0] (f_X11_isWhole_293 k_164 k_255 x2 x3 y5 x9 x10 x11 t1 t0 σ) := by
  unfold f_X11_isWhole_293
  refine rx_ladd C dX11_isWhole_293 ?_
  refine rx_ltl (fun w37 => ?_)
  refine rx_lstore C [(7, .long w37), (0, .ref (α 0)), (2, .int x2), (3, .int x3), (5, .long y5), (9, .int x9), (10, .int x10), (11, .int x11)] dX11_isWhole_294 (by decide) rfl ?_
  refine rx_iinc C (k0 := 7) (v := x11 + (1 : Int32)) [(11, .int (x11 + (1 : Int32))), (7, .long w37), (0, .ref (α 0)), (2, .int x2), (3, .int x3), (5, .long y5), (9, .int x9), (10, .int x10)] dX11_isWhole_296 rfl (congrArg _ ic_1) (by decide) rfl ?_
  refine rx_goto C (tgt := 255) dX11_isWhole_299 (by decide) ?_
  exact RX.loc (hk_255 x2 x3 y5 w37 x9 x10 (x11 + (1 : Int32)) σ) [2, 3, 4, 5, 1, 6, 7, 0] rfl
set_option maxRecDepth 100000 in
set_option maxHeartbeats 4000000 in
theorem w_X11_isWhole_255 {α : Nat → Nat} {D : va_G} {cA : Nat → ClassId} {z : Cz} (C : CX shM α D cA z RX11 cX11_isWhole 12 (some .boolean) 3 69) (k_164 : Int32 → Int32 → Int64 → Int64 → Int32 → St → Option (Int32 × St)) (hk_164 : ∀ (x2 : Int32) (x3 : Int32) (y5 : Int64) (y7 : Int64) (x9 : Int32) (σ : St), RX emI shM α D cA z 12 σ 164 [(0, .ref (α 0)), (2, .int x2), (3, .int x3), (5, .long y5), (7, .long y7), (9, .int x9)] [] (k_164 x2 x3 y5 y7 x9 σ)) : ∀ (n : Nat) (x2 : Int32) (x3 : Int32) (y5 : Int64) (y7 : Int64) (x9 : Int32) (x10 : Int32) (x11 : Int32) (σ : St), RX emI shM α D cA z 12 σ 255 [(0, .ref (α 0)), (2, .int x2), (3, .int x3), (5, .long y5), (7, .long y7), (9, .int x9), (10, .int x10), (11, .int x11)] [] (f_X11_isWhole_255 k_164 n x2 x3 y5 y7 x9 x10 x11 σ) := by
  intro n
  induction n with
  | zero => intros; exact rx_none
  | succ n hk_255 =>
    intro x2 x3 y5 y7 x9 x10 x11 σ
    rw [f_X11_isWhole_255.eq_2]
    refine rx_iload C 7 dX11_isWhole_255 rfl ?_
    refine rx_aload_n C 0 dX11_isWhole_257 rfl rfl ?_
    refine rx_getC C (k := 20) sm_0 fc_X11 (by decide) 9 rfl lk_X11_73 dX11_isWhole_258 ?_
    refine rx_aload_n C 0 dX11_isWhole_261 rfl rfl ?_
    refine rx_getI C (k := 12) sm_0 fc_X11 (by decide) rfl lk_X11_48 dX11_isWhole_262 ?_
    refine rx_iald C (n := 2) sm_9 dX11_isWhole_265 (fun _ => ?_)
    refine rx_icmp_ge C (tgt := 302) dX11_isWhole_266 (by decide) (fun _ => ?_) (fun _ => ?_)
    · refine rx_iinc C (k0 := 5) (v := x9 + (1 : Int32)) [(9, .int (x9 + (1 : Int32))), (0, .ref (α 0)), (2, .int x2), (3, .int x3), (5, .long y5), (7, .long y7), (10, .int x10), (11, .int x11)] dX11_isWhole_302 rfl (congrArg _ ic_1) (by decide) rfl ?_
      refine rx_goto C (tgt := 164) dX11_isWhole_305 (by decide) ?_
      exact RX.loc (hk_164 x2 x3 y5 y7 (x9 + (1 : Int32)) σ) [1, 2, 3, 4, 5, 0] rfl
    · refine rx_lload C 4 dX11_isWhole_269 rfl ?_
      refine rx_iload C 6 dX11_isWhole_271 rfl ?_
      refine rx_iload C 7 dX11_isWhole_273 rfl ?_
      refine rx_ishr C dX11_isWhole_275 ?_
      refine rx_iconst C dX11_isWhole_276 ic_1 ?_
      refine rx_iand C dX11_isWhole_277 ?_
      refine rx_iconst C dX11_isWhole_278 ic_1 ?_
      refine rx_icmp_ne C (tgt := 292) dX11_isWhole_279 (by decide) (fun _ => ?_) (fun _ => ?_)
      · refine rx_aload_n C 0 dX11_isWhole_282 rfl rfl ?_
        refine rx_iload C 7 dX11_isWhole_283 rfl ?_
        refine rx_callVi C [.int x11] [.long y7] (m_X11_lengthOf z.l C.inj x11 σ) mv_X11_lengthOf lk_X11_474 sm_0 rfl rfl rfl (Nat.le_of_ble_eq_true rfl) ⟨Nat.le_of_ble_eq_true rfl, Nat.le_of_ble_eq_true rfl⟩ dX11_isWhole_285 (fun q36 => ?_)
        refine rx_i2l C dX11_isWhole_288 ?_
        refine rx_goto C (tgt := 293) dX11_isWhole_289 (by decide) ?_
        exact RX.loc (w_X11_isWhole_293 C k_164 hk_164 (f_X11_isWhole_255 k_164 n) hk_255 x2 x3 y5 x9 x10 x11 ((q36.1).toInt64) y7 q36.2) [0, 1, 2, 3, 5, 6, 7] rfl
      · refine rx_lconst C dX11_isWhole_292 lc_0 ?_
        exact RX.loc (w_X11_isWhole_293 C k_164 hk_164 (f_X11_isWhole_255 k_164 n) hk_255 x2 x3 y5 x9 x10 x11 (0 : Int64) y7 σ) [0, 1, 2, 3, 5, 6, 7] rfl
set_option maxRecDepth 100000 in
set_option maxHeartbeats 4000000 in
theorem w_X11_isWhole_164 {α : Nat → Nat} {D : va_G} {cA : Nat → ClassId} {z : Cz} (C : CX shM α D cA z RX11 cX11_isWhole 12 (some .boolean) 3 69) : ∀ (n : Nat) (x2 : Int32) (x3 : Int32) (y5 : Int64) (y7 : Int64) (x9 : Int32) (σ : St), RX emI shM α D cA z 12 σ 164 [(0, .ref (α 0)), (2, .int x2), (3, .int x3), (5, .long y5), (7, .long y7), (9, .int x9)] [] (f_X11_isWhole_164 n x2 x3 y5 y7 x9 σ) := by
  intro n
  induction n with
  | zero => intros; exact rx_none
  | succ n hk_164 =>
    intro x2 x3 y5 y7 x9 σ
    rw [f_X11_isWhole_164.eq_2]
    refine rx_iload C 5 dX11_isWhole_164 rfl ?_
    refine rx_aload_n C 0 dX11_isWhole_166 rfl rfl ?_
    refine rx_getC C (k := 14) sm_0 fc_X11 (by decide) 3 rfl lk_X11_54 dX11_isWhole_167 ?_
    refine rx_aload_n C 0 dX11_isWhole_170 rfl rfl ?_
    refine rx_getI C (k := 12) sm_0 fc_X11 (by decide) rfl lk_X11_48 dX11_isWhole_171 ?_
    refine rx_iald C (n := 2) sm_3 dX11_isWhole_174 (fun _ => ?_)
    refine rx_icmp_ge C (tgt := 308) dX11_isWhole_175 (by decide) (fun _ => ?_) (fun _ => ?_)
    · refine rx_iconst C dX11_isWhole_308 ic_0 ?_
      refine rx_istore C [(9, .int (0 : Int32)), (0, .ref (α 0)), (2, .int x2), (3, .int x3), (5, .long y5), (7, .long y7)] dX11_isWhole_309 (by decide) rfl ?_
      exact RX.loc (w_X11_isWhole_311 C FU x2 x3 y5 y7 (0 : Int32) σ) [1, 2, 3, 4, 5, 0] rfl
    · refine rx_aload_n C 0 dX11_isWhole_178 rfl rfl ?_
      refine rx_iconst C dX11_isWhole_179 ic_2 ?_
      refine rx_bipush C dX11_isWhole_180 bp_54 ?_
      refine rx_iload C 5 dX11_isWhole_182 rfl ?_
      refine rx_imul C dX11_isWhole_184 ?_
      refine rx_iadd C dX11_isWhole_185 ?_
      refine rx_callVi C [.int ((2 : Int32) + ((54 : Int32) * x9))] [] (m_X11_two z.l C.inj ((2 : Int32) + ((54 : Int32) * x9)) σ) mv_X11_two lk_X11_585 sm_0 rfl rfl rfl (Nat.le_of_ble_eq_true rfl) ⟨Nat.le_of_ble_eq_true rfl, Nat.le_of_ble_eq_true rfl⟩ dX11_isWhole_186 (fun q30 => ?_)
      refine rx_istore C [(10, .int q30.1), (0, .ref (α 0)), (2, .int x2), (3, .int x3), (5, .long y5), (7, .long y7), (9, .int x9)] dX11_isWhole_189 (by decide) rfl ?_
      refine rx_iload C 0 dX11_isWhole_191 rfl ?_
      refine rx_iconst C dX11_isWhole_193 ic_1 ?_
      refine rx_aload_n C 1 dX11_isWhole_194 rfl rfl ?_
      refine rx_getC C (k := 20) sm_0 fc_X11 (by decide) 9 rfl lk_X11_73 dX11_isWhole_195 ?_
      refine rx_aload_n C 1 dX11_isWhole_198 rfl rfl ?_
      refine rx_getI C (k := 12) sm_0 fc_X11 (by decide) rfl lk_X11_48 dX11_isWhole_199 ?_
      refine rx_iald C (n := 2) sm_9 dX11_isWhole_202 (fun _ => ?_)
      refine rx_ishl C dX11_isWhole_203 ?_
      refine rx_icmp_lt C (tgt := 209) dX11_isWhole_204 (by decide) (fun _ => ?_) (fun _ => ?_)
      · refine rx_lload C 4 dX11_isWhole_209 rfl ?_
        refine rx_aload_n C 1 dX11_isWhole_211 rfl rfl ?_
        refine rx_iload C 0 dX11_isWhole_212 rfl ?_
        refine rx_iconst C dX11_isWhole_214 ic_0 ?_
        refine rx_callVi C [.int q30.1, .int (0 : Int32)] [.long y5] (m_X11_sumOf z.l C.inj q30.1 (0 : Int32) q30.2) mv_X11_sumOf lk_X11_442 sm_0 rfl rfl rfl (Nat.le_of_ble_eq_true rfl) ⟨Nat.le_of_ble_eq_true rfl, Nat.le_of_ble_eq_true rfl⟩ dX11_isWhole_215 (fun q31 => ?_)
        refine rx_i2l C dX11_isWhole_218 ?_
        refine rx_aload_n C 1 dX11_isWhole_219 rfl rfl ?_
        refine rx_iconst C dX11_isWhole_220 ic_4 ?_
        refine rx_bipush C dX11_isWhole_221 bp_54 ?_
        refine rx_iload C 6 dX11_isWhole_223 rfl ?_
        refine rx_imul C dX11_isWhole_225 ?_
        refine rx_iadd C dX11_isWhole_226 ?_
        refine rx_iconst C dX11_isWhole_227 ic_1 ?_
        refine rx_callVl C [.int ((4 : Int32) + ((54 : Int32) * x9)), .int (1 : Int32)] [.long ((q31.1).toInt64), .long y5] (m_X11_rowAt z.l C.inj ((4 : Int32) + ((54 : Int32) * x9)) (1 : Int32) q31.2) mv_X11_rowAt lk_X11_588 sm_0 rfl rfl rfl (Nat.le_of_ble_eq_true rfl) ⟨Nat.le_of_ble_eq_true rfl, Nat.le_of_ble_eq_true rfl⟩ dX11_isWhole_228 (fun q32 => ?_)
        refine rx_ladd C dX11_isWhole_231 ?_
        refine rx_ladd C dX11_isWhole_232 ?_
        refine rx_ltl (fun w33 => ?_)
        refine rx_lstore C [(5, .long w33), (10, .int q30.1), (0, .ref (α 0)), (2, .int x2), (3, .int x3), (7, .long y7), (9, .int x9)] dX11_isWhole_233 (by decide) rfl ?_
        refine rx_lload C 5 dX11_isWhole_235 rfl ?_
        refine rx_aload_n C 2 dX11_isWhole_237 rfl rfl ?_
        refine rx_iconst C dX11_isWhole_238 ic_4 ?_
        refine rx_bipush C dX11_isWhole_239 bp_54 ?_
        refine rx_iload C 6 dX11_isWhole_241 rfl ?_
        refine rx_imul C dX11_isWhole_243 ?_
        refine rx_iadd C dX11_isWhole_244 ?_
        refine rx_iconst C dX11_isWhole_245 ic_0 ?_
        refine rx_callVl C [.int ((4 : Int32) + ((54 : Int32) * x9)), .int (0 : Int32)] [.long y7] (m_X11_rowAt z.l C.inj ((4 : Int32) + ((54 : Int32) * x9)) (0 : Int32) q32.2) mv_X11_rowAt lk_X11_588 sm_0 rfl rfl rfl (Nat.le_of_ble_eq_true rfl) ⟨Nat.le_of_ble_eq_true rfl, Nat.le_of_ble_eq_true rfl⟩ dX11_isWhole_246 (fun q34 => ?_)
        refine rx_ladd C dX11_isWhole_249 ?_
        refine rx_ltl (fun w35 => ?_)
        refine rx_lstore C [(7, .long w35), (5, .long w33), (10, .int q30.1), (0, .ref (α 0)), (2, .int x2), (3, .int x3), (9, .int x9)] dX11_isWhole_250 (by decide) rfl ?_
        refine rx_iconst C dX11_isWhole_252 ic_0 ?_
        refine rx_istore C [(11, .int (0 : Int32)), (7, .long w35), (5, .long w33), (10, .int q30.1), (0, .ref (α 0)), (2, .int x2), (3, .int x3), (9, .int x9)] dX11_isWhole_253 (by decide) rfl ?_
        exact RX.loc (w_X11_isWhole_255 C (f_X11_isWhole_164 n) hk_164 FU x2 x3 w33 w35 x9 q30.1 (0 : Int32) q34.2) [4, 5, 6, 2, 1, 7, 3, 0] rfl
      · refine rx_iconst C dX11_isWhole_207 ic_0 ?_
        exact rx_zretC C dX11_isWhole_208 rfl
set_option maxRecDepth 100000 in
set_option maxHeartbeats 4000000 in
theorem w_X11_isWhole_73 {α : Nat → Nat} {D : va_G} {cA : Nat → ClassId} {z : Cz} (C : CX shM α D cA z RX11 cX11_isWhole 12 (some .boolean) 3 69) : ∀ (n : Nat) (x1 : Int32) (x2 : Int32) (x3 : Int32) (x4 : Int32) (x5 : Int32) (σ : St), RX emI shM α D cA z 12 σ 73 [(0, .ref (α 0)), (1, .int x1), (2, .int x2), (3, .int x3), (4, .int x4), (5, .int x5)] [] (f_X11_isWhole_73 n x1 x2 x3 x4 x5 σ) := by
  intro n
  induction n with
  | zero => intros; exact rx_none
  | succ n hk_73 =>
    intro x1 x2 x3 x4 x5 σ
    rw [f_X11_isWhole_73.eq_2]
    refine rx_iload C 5 dX11_isWhole_73 rfl ?_
    refine rx_iload_n C 1 dX11_isWhole_75 rfl rfl ?_
    refine rx_iconst C dX11_isWhole_76 ic_1 ?_
    refine rx_isub C dX11_isWhole_77 ?_
    refine rx_icmp_ge C (tgt := 105) dX11_isWhole_78 (by decide) (fun _ => ?_) (fun _ => ?_)
    · refine rx_aload_n C 0 dX11_isWhole_105 rfl rfl ?_
      refine rx_getC C (k := 0) sm_0 fc_X11 (by decide) 1 rfl lk_X11_7 dX11_isWhole_106 ?_
      refine rx_iload_n C 1 dX11_isWhole_109 rfl rfl ?_
      refine rx_iconst C dX11_isWhole_110 ic_1 ?_
      refine rx_isub C dX11_isWhole_111 ?_
      refine rx_iald C (n := 1800) sm_1 dX11_isWhole_112 (fun _ => ?_)
      refine rx_iload C 4 dX11_isWhole_113 rfl ?_
      refine rx_icmp_eq C (tgt := 120) dX11_isWhole_115 (by decide) (fun _ => ?_) (fun _ => ?_)
      · refine rx_aload_n C 0 dX11_isWhole_120 rfl rfl ?_
        refine rx_iload_n C 2 dX11_isWhole_121 rfl rfl ?_
        refine rx_iconst C dX11_isWhole_122 ic_1 ?_
        refine rx_callVl C [.int x2, .int (1 : Int32)] [] (m_X11_rowAt z.l C.inj x2 (1 : Int32) σ) mv_X11_rowAt lk_X11_588 sm_0 rfl rfl rfl (Nat.le_of_ble_eq_true rfl) ⟨Nat.le_of_ble_eq_true rfl, Nat.le_of_ble_eq_true rfl⟩ dX11_isWhole_123 (fun q23 => ?_)
        refine rx_ldc2_w C lk_X11_592 dX11_isWhole_126 ?_
        refine rx_aload_n C 0 dX11_isWhole_129 rfl rfl ?_
        refine rx_getC C (k := 0) sm_0 fc_X11 (by decide) 1 rfl lk_X11_7 dX11_isWhole_130 ?_
        refine rx_iload_n C 2 dX11_isWhole_133 rfl rfl ?_
        refine rx_bipush C dX11_isWhole_134 bp_52 ?_
        refine rx_iadd C dX11_isWhole_136 ?_
        refine rx_iald C (n := 1800) sm_1 dX11_isWhole_137 (fun _ => ?_)
        refine rx_i2l C dX11_isWhole_138 ?_
        refine rx_lmul C dX11_isWhole_139 ?_
        refine rx_ladd C dX11_isWhole_140 ?_
        refine rx_aload_n C 0 dX11_isWhole_141 rfl rfl ?_
        refine rx_iload_n C 2 dX11_isWhole_142 rfl rfl ?_
        refine rx_bipush C dX11_isWhole_143 bp_53 ?_
        refine rx_iadd C dX11_isWhole_145 ?_
        refine rx_callVi C [.int (x2 + (53 : Int32))] [.long (q23.1 + ((65536 : Int64) * ((gI q23.2 1 (ix (x2 + (52 : Int32)))).toInt64)))] (m_X11_two z.l C.inj (x2 + (53 : Int32)) q23.2) mv_X11_two lk_X11_585 sm_0 rfl rfl rfl (Nat.le_of_ble_eq_true rfl) ⟨Nat.le_of_ble_eq_true rfl, Nat.le_of_ble_eq_true rfl⟩ dX11_isWhole_146 (fun q24 => ?_)
        refine rx_i2l C dX11_isWhole_149 ?_
        refine rx_ladd C dX11_isWhole_150 ?_
        refine rx_ltl (fun w25 => ?_)
        refine rx_lstore C [(5, .long w25), (0, .ref (α 0)), (1, .int x1), (2, .int x2), (3, .int x3), (4, .int x4)] dX11_isWhole_151 (by decide) rfl ?_
        refine rx_aload_n C 1 dX11_isWhole_153 rfl rfl ?_
        refine rx_iload_n C 3 dX11_isWhole_154 rfl rfl ?_
        refine rx_iconst C dX11_isWhole_155 ic_0 ?_
        refine rx_callVl C [.int x2, .int (0 : Int32)] [] (m_X11_rowAt z.l C.inj x2 (0 : Int32) q24.2) mv_X11_rowAt lk_X11_588 sm_0 rfl rfl rfl (Nat.le_of_ble_eq_true rfl) ⟨Nat.le_of_ble_eq_true rfl, Nat.le_of_ble_eq_true rfl⟩ dX11_isWhole_156 (fun q26 => ?_)
        refine rx_lstore C [(7, .long q26.1), (5, .long w25), (0, .ref (α 0)), (1, .int x1), (2, .int x2), (3, .int x3), (4, .int x4)] dX11_isWhole_159 (by decide) rfl ?_
        refine rx_iconst C dX11_isWhole_161 ic_0 ?_
        refine rx_istore C [(9, .int (0 : Int32)), (7, .long q26.1), (5, .long w25), (0, .ref (α 0)), (1, .int x1), (2, .int x2), (3, .int x3), (4, .int x4)] dX11_isWhole_162 (by decide) rfl ?_
        exact RX.loc (w_X11_isWhole_164 C FU x2 x3 w25 q26.1 (0 : Int32) q26.2) [3, 5, 6, 2, 1, 0] rfl
      · refine rx_iconst C dX11_isWhole_118 ic_0 ?_
        exact rx_zretC C dX11_isWhole_119 rfl
    · refine rx_iconst C dX11_isWhole_81 ic_3 ?_
      refine rx_iload C 4 dX11_isWhole_82 rfl ?_
      refine rx_imul C dX11_isWhole_84 ?_
      refine rx_aload_n C 0 dX11_isWhole_85 rfl rfl ?_
      refine rx_getC C (k := 0) sm_0 fc_X11 (by decide) 1 rfl lk_X11_7 dX11_isWhole_86 ?_
      refine rx_iload C 5 dX11_isWhole_89 rfl ?_
      refine rx_iald C (n := 1800) sm_1 dX11_isWhole_91 (fun _ => ?_)
      refine rx_iadd C dX11_isWhole_92 ?_
      refine rx_sipush C dX11_isWhole_93 sp_239 ?_
      refine rx_iremC C dX11_isWhole_96 (by decide) ?_
      refine rx_lti (fun w38 => ?_)
      refine rx_istore C [(4, .int w38), (0, .ref (α 0)), (1, .int x1), (2, .int x2), (3, .int x3), (5, .int x5)] dX11_isWhole_97 (by decide) rfl ?_
      refine rx_iinc C (k0 := 5) (v := x5 + (1 : Int32)) [(5, .int (x5 + (1 : Int32))), (4, .int w38), (0, .ref (α 0)), (1, .int x1), (2, .int x2), (3, .int x3)] dX11_isWhole_99 rfl (congrArg _ ic_1) (by decide) rfl ?_
      refine rx_goto C (tgt := 73) dX11_isWhole_102 (by decide) ?_
      exact RX.loc (hk_73 x1 x2 x3 w38 (x5 + (1 : Int32)) σ) [2, 3, 4, 5, 1, 0] rfl
set_option maxRecDepth 100000 in
set_option maxHeartbeats 4000000 in
theorem w_X11_isWhole_e {α : Nat → Nat} {D : va_G} {cA : Nat → ClassId} {z : Cz} (C : CX shM α D cA z RX11 cX11_isWhole 12 (some .boolean) 3 69) (x1 : Int32) (σ : St) : RX emI shM α D cA z 12 σ 0 [(0, .ref (α 0)), (1, .int x1)] [] (f_X11_isWhole x1 σ) := by
  unfold f_X11_isWhole
  refine rx_iconst C dX11_isWhole_0 ic_2 ?_
  refine rx_bipush C dX11_isWhole_1 bp_54 ?_
  refine rx_aload_n C 0 dX11_isWhole_3 rfl rfl ?_
  refine rx_getC C (k := 14) sm_0 fc_X11 (by decide) 3 rfl lk_X11_54 dX11_isWhole_4 ?_
  refine rx_aload_n C 0 dX11_isWhole_7 rfl rfl ?_
  refine rx_getI C (k := 12) sm_0 fc_X11 (by decide) rfl lk_X11_48 dX11_isWhole_8 ?_
  refine rx_iald C (n := 2) sm_3 dX11_isWhole_11 (fun _ => ?_)
  refine rx_imul C dX11_isWhole_12 ?_
  refine rx_iadd C dX11_isWhole_13 ?_
  refine rx_lti (fun w20 => ?_)
  refine rx_istore_n C [(2, .int w20), (0, .ref (α 0)), (1, .int x1)] dX11_isWhole_14 rfl (by decide) rfl ?_
  refine rx_iload_n C 2 dX11_isWhole_15 rfl rfl ?_
  refine rx_iload_n C 0 dX11_isWhole_16 rfl rfl ?_
  refine rx_bipush C dX11_isWhole_17 bp_57 ?_
  refine rx_iadd C dX11_isWhole_19 ?_
  refine rx_icmp_lt C (tgt := 34) dX11_isWhole_20 (by decide) (fun _ => ?_) (fun _ => ?_)
  · exact RX.loc (w_X11_isWhole_34 C σ) [] rfl
  · refine rx_aload_n C 1 dX11_isWhole_23 rfl rfl ?_
    refine rx_iconst C dX11_isWhole_24 ic_0 ?_
    refine rx_callVi C [.int (0 : Int32)] [] (m_X11_two z.l C.inj (0 : Int32) σ) mv_X11_two lk_X11_585 sm_0 rfl rfl rfl (Nat.le_of_ble_eq_true rfl) ⟨Nat.le_of_ble_eq_true rfl, Nat.le_of_ble_eq_true rfl⟩ dX11_isWhole_25 (fun q21 => ?_)
    refine rx_sipush C dX11_isWhole_28 sp_999 ?_
    refine rx_icmp_le C (tgt := 36) dX11_isWhole_31 (by decide) (fun _ => ?_) (fun _ => ?_)
    · refine rx_aload_n C 1 dX11_isWhole_36 rfl rfl ?_
      refine rx_getC C (k := 0) sm_0 fc_X11 (by decide) 1 rfl lk_X11_7 dX11_isWhole_37 ?_
      refine rx_iload_n C 0 dX11_isWhole_40 rfl rfl ?_
      refine rx_bipush C dX11_isWhole_41 bp_55 ?_
      refine rx_iadd C dX11_isWhole_43 ?_
      refine rx_iald C (n := 1800) sm_1 dX11_isWhole_44 (fun _ => ?_)
      refine rx_lti (fun w22 => ?_)
      refine rx_istore_n C [(3, .int w22), (2, .int w20), (0, .ref (α 0)), (1, .int x1)] dX11_isWhole_45 rfl (by decide) rfl ?_
      refine rx_iload_n C 0 dX11_isWhole_46 rfl rfl ?_
      refine rx_bipush C dX11_isWhole_47 bp_30 ?_
      refine rx_icmp_gt C (tgt := 64) dX11_isWhole_49 (by decide) (fun _ => ?_) (fun _ => ?_)
      · exact RX.loc (w_X11_isWhole_64 C q21.2) [] rfl
      · refine rx_iload_n C 3 dX11_isWhole_52 rfl rfl ?_
        refine rx_iload_n C 1 dX11_isWhole_53 rfl rfl ?_
        refine rx_bipush C dX11_isWhole_54 bp_57 ?_
        refine rx_iadd C dX11_isWhole_56 ?_
        refine rx_iconst C dX11_isWhole_57 ic_2 ?_
        refine rx_iload_n C 0 dX11_isWhole_58 rfl rfl ?_
        refine rx_imul C dX11_isWhole_59 ?_
        refine rx_iadd C dX11_isWhole_60 ?_
        refine rx_icmp_eq C (tgt := 66) dX11_isWhole_61 (by decide) (fun _ => ?_) (fun _ => ?_)
        · refine rx_bipush C dX11_isWhole_66 bp_41 ?_
          refine rx_istore C [(4, .int (41 : Int32)), (3, .int w22), (2, .int w20), (0, .ref (α 0)), (1, .int x1)] dX11_isWhole_68 (by decide) rfl ?_
          refine rx_iconst C dX11_isWhole_70 ic_0 ?_
          refine rx_istore C [(5, .int (0 : Int32)), (4, .int (41 : Int32)), (3, .int w22), (2, .int w20), (0, .ref (α 0)), (1, .int x1)] dX11_isWhole_71 (by decide) rfl ?_
          exact RX.loc (w_X11_isWhole_73 C FU x1 w20 w22 (41 : Int32) (0 : Int32) q21.2) [4, 5, 3, 2, 1, 0] rfl
        · exact RX.loc (w_X11_isWhole_64 C q21.2) [] rfl
    · exact RX.loc (w_X11_isWhole_34 C q21.2) [] rfl
theorem m_X11_isWhole (l : Launch) {α : Nat → Nat} {D : va_G} {cA : Nat → ClassId} (hin : inj shM.length α) (x1 : Int32) (σ : St) : CT shM l yX11_isWhole cX11_isWhole 12 (some .boolean) 3 69 emI α D cA [.ref (α 0), .int x1] σ (f_X11_isWhole x1 σ) := ct_of rfl (Nat.le_of_ble_eq_true rfl) hin (fun z _ C => w_X11_isWhole_e C x1 σ)
set_option maxRecDepth 100000 in
set_option maxHeartbeats 4000000 in
theorem w_X11_on_31 {α : Nat → Nat} {D : va_G} {cA : Nat → ClassId} {z : Cz} (C : CX shM α D cA z RX11 cX11_on 4 (some .boolean) 4 100) (s0 : Int32) (σ : St) : RX emI shM α D cA z 4 σ 31 [] [.int s0] (f_X11_on_31 s0 σ) := by
  unfold f_X11_on_31
  exact rx_zret C dX11_on_31
set_option maxRecDepth 100000 in
set_option maxHeartbeats 4000000 in
theorem w_X11_on_235 {α : Nat → Nat} {D : va_G} {cA : Nat → ClassId} {z : Cz} (C : CX shM α D cA z RX11 cX11_on 4 (some .boolean) 4 100) : ∀ (n : Nat) (x2 : Int32) (x3 : Int32) (σ : St), RX emI shM α D cA z 4 σ 235 [(0, .ref (α 0)), (2, .int x2), (3, .int x3)] [] (f_X11_on_235 n x2 x3 σ) := by
  intro n
  induction n with
  | zero => intros; exact rx_none
  | succ n hk_235 =>
    intro x2 x3 σ
    rw [f_X11_on_235.eq_2]
    refine rx_iload_n C 2 dX11_on_235 rfl rfl ?_
    refine rx_aload_n C 0 dX11_on_236 rfl rfl ?_
    refine rx_getI C (k := 60) sm_0 fc_X11 (by decide) rfl lk_X11_195 dX11_on_237 ?_
    refine rx_icmp_ge C (tgt := 267) dX11_on_240 (by decide) (fun _ => ?_) (fun _ => ?_)
    · refine rx_aload_n C 0 dX11_on_267 rfl rfl ?_
      refine rx_iconst C dX11_on_268 ic_0 ?_
      refine rx_putI C (k := 56) sm_0 fc_X11 (by decide) rfl lk_X11_183 rfl ⟨rfl, rfl⟩ dX11_on_269 ?_
      refine rx_lts (fun σ33 => ?_)
      refine rx_aload_n C 0 dX11_on_272 rfl rfl ?_
      refine rx_iconst C dX11_on_273 ic_0 ?_
      refine rx_putI C (k := 62) sm_0 fc_X11 (by decide) rfl lk_X11_201 rfl ⟨rfl, rfl⟩ dX11_on_274 ?_
      refine rx_lts (fun σ34 => ?_)
      refine rx_aload_n C 0 dX11_on_277 rfl rfl ?_
      refine rx_iconst C dX11_on_278 ic_0 ?_
      refine rx_putI C (k := 64) sm_0 fc_X11 (by decide) rfl lk_X11_207 rfl ⟨rfl, rfl⟩ dX11_on_279 ?_
      refine rx_lts (fun σ35 => ?_)
      refine rx_iconst C dX11_on_282 ic_1 ?_
      exact rx_zretC C dX11_on_283 rfl
    · refine rx_aload_n C 0 dX11_on_243 rfl rfl ?_
      refine rx_getC C (k := 61) sm_0 fc_X11 (by decide) 40 rfl lk_X11_198 dX11_on_244 ?_
      refine rx_iload_n C 2 dX11_on_247 rfl rfl ?_
      refine rx_aload_n C 0 dX11_on_248 rfl rfl ?_
      refine rx_iload_n C 1 dX11_on_249 rfl rfl ?_
      refine rx_bipush C dX11_on_250 bp_56 ?_
      refine rx_iadd C dX11_on_252 ?_
      refine rx_iconst C dX11_on_253 ic_2 ?_
      refine rx_iload_n C 2 dX11_on_254 rfl rfl ?_
      refine rx_imul C dX11_on_255 ?_
      refine rx_iadd C dX11_on_256 ?_
      refine rx_callVi C [.int ((x2 + (56 : Int32)) + ((2 : Int32) * x3))] [.int x3, .ref (α 40)] (m_X11_two z.l C.inj ((x2 + (56 : Int32)) + ((2 : Int32) * x3)) σ) mv_X11_two lk_X11_585 sm_0 rfl rfl rfl (Nat.le_of_ble_eq_true rfl) ⟨Nat.le_of_ble_eq_true rfl, Nat.le_of_ble_eq_true rfl⟩ dX11_on_257 (fun q36 => ?_)
      refine rx_iast C (n := 30) sm_40 dX11_on_260 (fun _ => ?_)
      refine rx_lts (fun σ37 => ?_)
      refine rx_iinc C (k0 := 2) (v := x3 + (1 : Int32)) [(3, .int (x3 + (1 : Int32))), (0, .ref (α 0)), (2, .int x2)] dX11_on_261 rfl (congrArg _ ic_1) (by decide) rfl ?_
      refine rx_goto C (tgt := 235) dX11_on_264 (by decide) ?_
      exact RX.loc (hk_235 x2 (x3 + (1 : Int32)) σ37) [1, 2, 0] rfl
set_option maxRecDepth 100000 in
set_option maxHeartbeats 4000000 in
theorem w_X11_on_163 {α : Nat → Nat} {D : va_G} {cA : Nat → ClassId} {z : Cz} (C : CX shM α D cA z RX11 cX11_on 4 (some .boolean) 4 100) : ∀ (n : Nat) (x2 : Int32) (x3 : Int32) (σ : St), RX emI shM α D cA z 4 σ 163 [(0, .ref (α 0)), (2, .int x2), (3, .int x3)] [] (f_X11_on_163 n x2 x3 σ) := by
  intro n
  induction n with
  | zero => intros; exact rx_none
  | succ n hk_163 =>
    intro x2 x3 σ
    rw [f_X11_on_163.eq_2]
    refine rx_iload_n C 2 dX11_on_163 rfl rfl ?_
    refine rx_bipush C dX11_on_164 bp_26 ?_
    refine rx_icmp_ge C (tgt := 194) dX11_on_166 (by decide) (fun _ => ?_) (fun _ => ?_)
    · refine rx_aload_n C 0 dX11_on_194 rfl rfl ?_
      refine rx_ldc_w C lk_X11_599 dX11_on_195 ?_
      refine rx_aload_n C 0 dX11_on_198 rfl rfl ?_
      refine rx_getC C (k := 0) sm_0 fc_X11 (by decide) 1 rfl lk_X11_7 dX11_on_199 ?_
      refine rx_iload_n C 1 dX11_on_202 rfl rfl ?_
      refine rx_bipush C dX11_on_203 bp_52 ?_
      refine rx_iadd C dX11_on_205 ?_
      refine rx_iald C (n := 1800) sm_1 dX11_on_206 (fun _ => ?_)
      refine rx_imul C dX11_on_207 ?_
      refine rx_aload_n C 0 dX11_on_208 rfl rfl ?_
      refine rx_iload_n C 1 dX11_on_209 rfl rfl ?_
      refine rx_bipush C dX11_on_210 bp_53 ?_
      refine rx_iadd C dX11_on_212 ?_
      refine rx_callVi C [.int (x2 + (53 : Int32))] [.int ((65536 : Int32) * (gI σ 1 (ix (x2 + (52 : Int32))))), .ref (α 0)] (m_X11_two z.l C.inj (x2 + (53 : Int32)) σ) mv_X11_two lk_X11_585 sm_0 rfl rfl rfl (Nat.le_of_ble_eq_true rfl) ⟨Nat.le_of_ble_eq_true rfl, Nat.le_of_ble_eq_true rfl⟩ dX11_on_213 (fun q30 => ?_)
      refine rx_iadd C dX11_on_216 ?_
      refine rx_putI C (k := 55) sm_0 fc_X11 (by decide) rfl lk_X11_180 rfl ⟨rfl, rfl⟩ dX11_on_217 ?_
      refine rx_lts (fun σ31 => ?_)
      refine rx_aload_n C 0 dX11_on_220 rfl rfl ?_
      refine rx_aload_n C 0 dX11_on_221 rfl rfl ?_
      refine rx_getC C (k := 0) sm_0 fc_X11 (by decide) 1 rfl lk_X11_7 dX11_on_222 ?_
      refine rx_iload_n C 1 dX11_on_225 rfl rfl ?_
      refine rx_bipush C dX11_on_226 bp_55 ?_
      refine rx_iadd C dX11_on_228 ?_
      refine rx_iald C (n := 1800) sm_1 dX11_on_229 (fun _ => ?_)
      refine rx_putI C (k := 60) sm_0 fc_X11 (by decide) rfl lk_X11_195 rfl ⟨rfl, rfl⟩ dX11_on_230 ?_
      refine rx_lts (fun σ32 => ?_)
      refine rx_iconst C dX11_on_233 ic_0 ?_
      refine rx_istore_n C [(3, .int (0 : Int32)), (0, .ref (α 0)), (2, .int x2)] dX11_on_234 rfl (by decide) rfl ?_
      exact RX.loc (w_X11_on_235 C FU x2 (0 : Int32) σ32) [1, 2, 0] rfl
    · refine rx_aload_n C 0 dX11_on_169 rfl rfl ?_
      refine rx_getC C (k := 54) sm_0 fc_X11 (by decide) 36 rfl lk_X11_177 dX11_on_170 ?_
      refine rx_sipush C dX11_on_173 sp_208 ?_
      refine rx_iload_n C 2 dX11_on_176 rfl rfl ?_
      refine rx_iadd C dX11_on_177 ?_
      refine rx_aload_n C 0 dX11_on_178 rfl rfl ?_
      refine rx_iload_n C 1 dX11_on_179 rfl rfl ?_
      refine rx_iconst C dX11_on_180 ic_2 ?_
      refine rx_iload_n C 2 dX11_on_181 rfl rfl ?_
      refine rx_imul C dX11_on_182 ?_
      refine rx_iadd C dX11_on_183 ?_
      refine rx_callVi C [.int (x2 + ((2 : Int32) * x3))] [.int ((208 : Int32) + x3), .ref (α 36)] (m_X11_two z.l C.inj (x2 + ((2 : Int32) * x3)) σ) mv_X11_two lk_X11_585 sm_0 rfl rfl rfl (Nat.le_of_ble_eq_true rfl) ⟨Nat.le_of_ble_eq_true rfl, Nat.le_of_ble_eq_true rfl⟩ dX11_on_184 (fun q38 => ?_)
      refine rx_iast C (n := 234) sm_36 dX11_on_187 (fun _ => ?_)
      refine rx_lts (fun σ39 => ?_)
      refine rx_iinc C (k0 := 2) (v := x3 + (1 : Int32)) [(3, .int (x3 + (1 : Int32))), (0, .ref (α 0)), (2, .int x2)] dX11_on_188 rfl (congrArg _ ic_1) (by decide) rfl ?_
      refine rx_goto C (tgt := 163) dX11_on_191 (by decide) ?_
      exact RX.loc (hk_163 x2 (x3 + (1 : Int32)) σ39) [1, 2, 0] rfl
set_option maxRecDepth 100000 in
set_option maxHeartbeats 4000000 in
theorem w_X11_on_113 {α : Nat → Nat} {D : va_G} {cA : Nat → ClassId} {z : Cz} (C : CX shM α D cA z RX11 cX11_on 4 (some .boolean) 4 100) (k_43 : Int32 → St → Option (Int32 × St)) (hk_43 : ∀ (x2 : Int32) (σ : St), RX emI shM α D cA z 4 σ 43 [(0, .ref (α 0)), (2, .int x2)] [] (k_43 x2 σ)) : ∀ (n : Nat) (x2 : Int32) (x3 : Int32) (σ : St), RX emI shM α D cA z 4 σ 113 [(0, .ref (α 0)), (2, .int x2), (3, .int x3)] [] (f_X11_on_113 k_43 n x2 x3 σ) := by
  intro n
  induction n with
  | zero => intros; exact rx_none
  | succ n hk_113 =>
    intro x2 x3 σ
    rw [f_X11_on_113.eq_2]
    refine rx_iload_n C 2 dX11_on_113 rfl rfl ?_
    refine rx_bipush C dX11_on_114 bp_12 ?_
    refine rx_icmp_ge C (tgt := 140) dX11_on_116 (by decide) (fun _ => ?_) (fun _ => ?_)
    · refine rx_iinc C (k0 := 1) (v := x2 + (1 : Int32)) [(2, .int (x2 + (1 : Int32))), (0, .ref (α 0)), (3, .int x3)] dX11_on_140 rfl (congrArg _ ic_1) (by decide) rfl ?_
      refine rx_goto C (tgt := 43) dX11_on_143 (by decide) ?_
      exact RX.loc (hk_43 (x2 + (1 : Int32)) σ) [1, 0] rfl
    · refine rx_aload_n C 0 dX11_on_119 rfl rfl ?_
      refine rx_getC C (k := 66) sm_0 fc_X11 (by decide) 43 rfl lk_X11_213 dX11_on_120 ?_
      refine rx_bipush C dX11_on_123 bp_12 ?_
      refine rx_iload_n C 1 dX11_on_125 rfl rfl ?_
      refine rx_imul C dX11_on_126 ?_
      refine rx_iload_n C 2 dX11_on_127 rfl rfl ?_
      refine rx_iadd C dX11_on_128 ?_
      refine rx_aload_n C 0 dX11_on_129 rfl rfl ?_
      refine rx_getI C (k := 52) sm_0 fc_X11 (by decide) rfl lk_X11_171 dX11_on_130 ?_
      refine rx_iast C (n := 96) sm_43 dX11_on_133 (fun _ => ?_)
      refine rx_lts (fun σ42 => ?_)
      refine rx_iinc C (k0 := 2) (v := x3 + (1 : Int32)) [(3, .int (x3 + (1 : Int32))), (0, .ref (α 0)), (2, .int x2)] dX11_on_134 rfl (congrArg _ ic_1) (by decide) rfl ?_
      refine rx_goto C (tgt := 113) dX11_on_137 (by decide) ?_
      exact RX.loc (hk_113 x2 (x3 + (1 : Int32)) σ42) [1, 2, 0] rfl
set_option maxRecDepth 100000 in
set_option maxHeartbeats 4000000 in
theorem w_X11_on_74 {α : Nat → Nat} {D : va_G} {cA : Nat → ClassId} {z : Cz} (C : CX shM α D cA z RX11 cX11_on 4 (some .boolean) 4 100) (k_43 : Int32 → St → Option (Int32 × St)) (hk_43 : ∀ (x2 : Int32) (σ : St), RX emI shM α D cA z 4 σ 43 [(0, .ref (α 0)), (2, .int x2)] [] (k_43 x2 σ)) : ∀ (n : Nat) (x2 : Int32) (x3 : Int32) (σ : St), RX emI shM α D cA z 4 σ 74 [(0, .ref (α 0)), (2, .int x2), (3, .int x3)] [] (f_X11_on_74 k_43 n x2 x3 σ) := by
  intro n
  induction n with
  | zero => intros; exact rx_none
  | succ n hk_74 =>
    intro x2 x3 σ
    rw [f_X11_on_74.eq_2]
    refine rx_iload_n C 2 dX11_on_74 rfl rfl ?_
    refine rx_bipush C dX11_on_75 bp_26 ?_
    refine rx_icmp_ge C (tgt := 111) dX11_on_77 (by decide) (fun _ => ?_) (fun _ => ?_)
    · refine rx_iconst C dX11_on_111 ic_0 ?_
      refine rx_istore_n C [(3, .int (0 : Int32)), (0, .ref (α 0)), (2, .int x2)] dX11_on_112 rfl (by decide) rfl ?_
      exact RX.loc (w_X11_on_113 C k_43 hk_43 FU x2 (0 : Int32) σ) [1, 2, 0] rfl
    · refine rx_aload_n C 0 dX11_on_80 rfl rfl ?_
      refine rx_getC C (k := 54) sm_0 fc_X11 (by decide) 36 rfl lk_X11_177 dX11_on_81 ?_
      refine rx_bipush C dX11_on_84 bp_26 ?_
      refine rx_iload_n C 1 dX11_on_86 rfl rfl ?_
      refine rx_imul C dX11_on_87 ?_
      refine rx_iload_n C 2 dX11_on_88 rfl rfl ?_
      refine rx_iadd C dX11_on_89 ?_
      refine rx_aload_n C 0 dX11_on_90 rfl rfl ?_
      refine rx_iconst C dX11_on_91 ic_4 ?_
      refine rx_bipush C dX11_on_92 bp_54 ?_
      refine rx_iload_n C 1 dX11_on_94 rfl rfl ?_
      refine rx_imul C dX11_on_95 ?_
      refine rx_iadd C dX11_on_96 ?_
      refine rx_iconst C dX11_on_97 ic_2 ?_
      refine rx_iload_n C 2 dX11_on_98 rfl rfl ?_
      refine rx_imul C dX11_on_99 ?_
      refine rx_iadd C dX11_on_100 ?_
      refine rx_callVi C [.int (((4 : Int32) + ((54 : Int32) * x2)) + ((2 : Int32) * x3))] [.int (((26 : Int32) * x2) + x3), .ref (α 36)] (m_X11_two z.l C.inj (((4 : Int32) + ((54 : Int32) * x2)) + ((2 : Int32) * x3)) σ) mv_X11_two lk_X11_585 sm_0 rfl rfl rfl (Nat.le_of_ble_eq_true rfl) ⟨Nat.le_of_ble_eq_true rfl, Nat.le_of_ble_eq_true rfl⟩ dX11_on_101 (fun q43 => ?_)
      refine rx_iast C (n := 234) sm_36 dX11_on_104 (fun _ => ?_)
      refine rx_lts (fun σ44 => ?_)
      refine rx_iinc C (k0 := 2) (v := x3 + (1 : Int32)) [(3, .int (x3 + (1 : Int32))), (0, .ref (α 0)), (2, .int x2)] dX11_on_105 rfl (congrArg _ ic_1) (by decide) rfl ?_
      refine rx_goto C (tgt := 74) dX11_on_108 (by decide) ?_
      exact RX.loc (hk_74 x2 (x3 + (1 : Int32)) σ44) [1, 2, 0] rfl
set_option maxRecDepth 100000 in
set_option maxHeartbeats 4000000 in
theorem w_X11_on_43 {α : Nat → Nat} {D : va_G} {cA : Nat → ClassId} {z : Cz} (C : CX shM α D cA z RX11 cX11_on 4 (some .boolean) 4 100) : ∀ (n : Nat) (x2 : Int32) (σ : St), RX emI shM α D cA z 4 σ 43 [(0, .ref (α 0)), (2, .int x2)] [] (f_X11_on_43 n x2 σ) := by
  intro n
  induction n with
  | zero => intros; exact rx_none
  | succ n hk_43 =>
    intro x2 σ
    rw [f_X11_on_43.eq_2]
    refine rx_iload_n C 1 dX11_on_43 rfl rfl ?_
    refine rx_aload_n C 0 dX11_on_44 rfl rfl ?_
    refine rx_getC C (k := 14) sm_0 fc_X11 (by decide) 3 rfl lk_X11_54 dX11_on_45 ?_
    refine rx_aload_n C 0 dX11_on_48 rfl rfl ?_
    refine rx_getI C (k := 12) sm_0 fc_X11 (by decide) rfl lk_X11_48 dX11_on_49 ?_
    refine rx_iald C (n := 2) sm_3 dX11_on_52 (fun _ => ?_)
    refine rx_icmp_ge C (tgt := 146) dX11_on_53 (by decide) (fun _ => ?_) (fun _ => ?_)
    · refine rx_iconst C dX11_on_146 ic_2 ?_
      refine rx_bipush C dX11_on_147 bp_54 ?_
      refine rx_aload_n C 0 dX11_on_149 rfl rfl ?_
      refine rx_getC C (k := 14) sm_0 fc_X11 (by decide) 3 rfl lk_X11_54 dX11_on_150 ?_
      refine rx_aload_n C 0 dX11_on_153 rfl rfl ?_
      refine rx_getI C (k := 12) sm_0 fc_X11 (by decide) rfl lk_X11_48 dX11_on_154 ?_
      refine rx_iald C (n := 2) sm_3 dX11_on_157 (fun _ => ?_)
      refine rx_imul C dX11_on_158 ?_
      refine rx_iadd C dX11_on_159 ?_
      refine rx_lti (fun w29 => ?_)
      refine rx_istore_n C [(2, .int w29), (0, .ref (α 0))] dX11_on_160 rfl (by decide) rfl ?_
      refine rx_iconst C dX11_on_161 ic_0 ?_
      refine rx_istore_n C [(3, .int (0 : Int32)), (2, .int w29), (0, .ref (α 0))] dX11_on_162 rfl (by decide) rfl ?_
      exact RX.loc (w_X11_on_163 C FU w29 (0 : Int32) σ) [2, 1, 0] rfl
    · refine rx_aload_n C 0 dX11_on_56 rfl rfl ?_
      refine rx_getC C (k := 53) sm_0 fc_X11 (by decide) 35 rfl lk_X11_174 dX11_on_57 ?_
      refine rx_iload_n C 1 dX11_on_60 rfl rfl ?_
      refine rx_aload_n C 0 dX11_on_61 rfl rfl ?_
      refine rx_iconst C dX11_on_62 ic_2 ?_
      refine rx_bipush C dX11_on_63 bp_54 ?_
      refine rx_iload_n C 1 dX11_on_65 rfl rfl ?_
      refine rx_imul C dX11_on_66 ?_
      refine rx_iadd C dX11_on_67 ?_
      refine rx_callVi C [.int ((2 : Int32) + ((54 : Int32) * x2))] [.int x2, .ref (α 35)] (m_X11_two z.l C.inj ((2 : Int32) + ((54 : Int32) * x2)) σ) mv_X11_two lk_X11_585 sm_0 rfl rfl rfl (Nat.le_of_ble_eq_true rfl) ⟨Nat.le_of_ble_eq_true rfl, Nat.le_of_ble_eq_true rfl⟩ dX11_on_68 (fun q40 => ?_)
      refine rx_iast C (n := 8) sm_35 dX11_on_71 (fun _ => ?_)
      refine rx_lts (fun σ41 => ?_)
      refine rx_iconst C dX11_on_72 ic_0 ?_
      refine rx_istore_n C [(3, .int (0 : Int32)), (0, .ref (α 0)), (2, .int x2)] dX11_on_73 rfl (by decide) rfl ?_
      exact RX.loc (w_X11_on_74 C (f_X11_on_43 n) hk_43 FU x2 (0 : Int32) σ41) [1, 2, 0] rfl
set_option maxRecDepth 100000 in
set_option maxHeartbeats 4000000 in
theorem w_X11_on_e {α : Nat → Nat} {D : va_G} {cA : Nat → ClassId} {z : Cz} (C : CX shM α D cA z RX11 cX11_on 4 (some .boolean) 4 100) (σ : St) : RX emI shM α D cA z 4 σ 0 [(0, .ref (α 0))] [] (f_X11_on σ) := by
  unfold f_X11_on
  refine rx_aload_n C 0 dX11_on_0 rfl rfl ?_
  refine rx_getI C (k := 1) sm_0 fc_X11 (by decide) rfl lk_X11_13 dX11_on_1 ?_
  refine rx_lti (fun w23 => ?_)
  refine rx_istore_n C [(1, .int w23), (0, .ref (α 0))] dX11_on_4 rfl (by decide) rfl ?_
  refine rx_aload_n C 1 dX11_on_5 rfl rfl ?_
  refine rx_iconst C dX11_on_6 ic_0 ?_
  refine rx_putI C (k := 1) sm_0 fc_X11 (by decide) rfl lk_X11_13 rfl ⟨rfl, rfl⟩ dX11_on_7 ?_
  refine rx_lts (fun σ24 => ?_)
  refine rx_aload_n C 1 dX11_on_10 rfl rfl ?_
  refine rx_iload_n C 0 dX11_on_11 rfl rfl ?_
  refine rx_callVi C [.int w23] [] (m_X11_isWhole z.l C.inj w23 σ24) mv_X11_isWhole lk_X11_596 sm_0 rfl rfl rfl (Nat.le_of_ble_eq_true rfl) ⟨Nat.le_of_ble_eq_true rfl, Nat.le_of_ble_eq_true rfl⟩ dX11_on_12 (fun q25 => ?_)
  refine rx_if_ne C (tgt := 32) dX11_on_15 (by decide) (fun _ => ?_) (fun _ => ?_)
  · refine rx_aload_n C 1 dX11_on_18 rfl rfl ?_
    refine rx_iconst C dX11_on_19 ic_5 ?_
    refine rx_callVi C [.int (5 : Int32)] [] (m_X11_refuses z.l C.inj (5 : Int32) q25.2) mv_X11_refuses lk_X11_234 sm_0 rfl rfl rfl (Nat.le_of_ble_eq_true rfl) ⟨Nat.le_of_ble_eq_true rfl, Nat.le_of_ble_eq_true rfl⟩ dX11_on_20 (fun q26 => ?_)
    refine rx_if_lt C (tgt := 30) dX11_on_23 (by decide) (fun _ => ?_) (fun _ => ?_)
    · refine rx_iconst C dX11_on_30 ic_0 ?_
      exact RX.loc (w_X11_on_31 C (0 : Int32) q26.2) [] rfl
    · refine rx_iconst C dX11_on_26 ic_1 ?_
      refine rx_goto C (tgt := 31) dX11_on_27 (by decide) ?_
      exact RX.loc (w_X11_on_31 C (1 : Int32) q26.2) [] rfl
  · refine rx_aload_n C 1 dX11_on_32 rfl rfl ?_
    refine rx_aload_n C 1 dX11_on_33 rfl rfl ?_
    refine rx_iconst C dX11_on_34 ic_0 ?_
    refine rx_callVi C [.int (0 : Int32)] [.ref (α 0)] (m_X11_two z.l C.inj (0 : Int32) q25.2) mv_X11_two lk_X11_585 sm_0 rfl rfl rfl (Nat.le_of_ble_eq_true rfl) ⟨Nat.le_of_ble_eq_true rfl, Nat.le_of_ble_eq_true rfl⟩ dX11_on_35 (fun q27 => ?_)
    refine rx_putI C (k := 52) sm_0 fc_X11 (by decide) rfl lk_X11_171 rfl ⟨rfl, rfl⟩ dX11_on_38 ?_
    refine rx_lts (fun σ28 => ?_)
    refine rx_iconst C dX11_on_41 ic_0 ?_
    refine rx_istore_n C [(2, .int (0 : Int32)), (1, .int w23), (0, .ref (α 0))] dX11_on_42 rfl (by decide) rfl ?_
    exact RX.loc (w_X11_on_43 C FU (0 : Int32) σ28) [2, 0] rfl
theorem m_X11_on (l : Launch) {α : Nat → Nat} {D : va_G} {cA : Nat → ClassId} (hin : inj shM.length α) (σ : St) : CT shM l yX11_on cX11_on 4 (some .boolean) 4 100 emI α D cA [.ref (α 0)] σ (f_X11_on σ) := ct_of rfl (Nat.le_of_ble_eq_true rfl) hin (fun z _ C => w_X11_on_e C σ)
