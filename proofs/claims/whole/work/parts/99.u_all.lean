/-! ===== person, with the sums of the lead; all calls but land ===== -/
theorem step8F : Step_8 RelF := by
  intro a b x m h
  obtain ⟨hA, ld, bk, L, hs, hb, hl, hw, hd⟩ := id h
  have h8 := hl.1.1
  have X := e_X10_person a b x
  have M := e_X11_person_ a b m
  rw [isP_X hs hl] at X
  rw [isP_M hb hl] at M
  dsimp only [Option.bind] at X M
  cases hp : inb a L.np
  · rw [hp, if_pos (by decide)] at X M
    exact ⟨_, _, _, X, M, h⟩
  rw [hp, if_neg (by decide)] at X M
  obtain ⟨p, hp', rfl⟩ := inb_of hp (by omega)
  obtain ⟨cN, c4, cx, cm⟩ := coat_cN hl hd (p := p) (by omega)
  by_cases c0 : b = 0
  · rw [if_pos c0] at X M
    rw [age_X hs hl hp'] at X
    rw [age_M hb hl hd hp'] at M
    exact ⟨_, _, _, X, M, h⟩
  rw [if_neg c0] at X M
  by_cases c1 : b = 1
  · rw [if_pos c1] at X M
    obtain ⟨k, σ1, τ1, k1, q1, q2, e1, e2⟩ := limB hs hb hl hd hw.1 hp'
    rw [e1] at X
    rw [e2] at M
    exact ⟨_, _, _, X, M, scr LWC_c q1 q2 h⟩
  rw [if_neg c1] at X M
  by_cases c2 : b = 2
  · rw [if_pos c2] at X M
    rw [load_X hs hl hd (by omega)] at X
    rw [load_M hb hl hd (by omega)] at M
    exact ⟨_, _, _, X, M, h⟩
  rw [if_neg c2] at X M
  by_cases c3 : b = 3
  · rw [if_pos c3] at X M
    rw [hon_X hs hl hd (by omega)] at X
    rw [if_pos (inb_nI (by omega) (by omega)), ix_nI (by omega), cm, sum_M hb hl (by omega), if_neg (by decide)] at M
    exact ⟨_, _, _, X, M, h⟩
  rw [if_neg c3] at X M
  by_cases c4 : b = 4
  · rw [if_pos c4] at X M
    rw [titlesOf_X hl hd (by omega)] at X
    rw [if_pos (inb_nI (by omega) (by omega)), ix_nI (by omega), cm] at M
    exact ⟨_, _, _, X, M, h⟩
  rw [if_neg c4] at X M
  by_cases c5 : b = 5
  · rw [if_pos c5] at X M
    rw [many_X (by omega)] at X
    rw [many_M hd (by omega)] at M
    exact ⟨_, _, _, X, M, h⟩
  rw [if_neg c5] at X M
  by_cases c6 : b = 6
  · rw [if_pos c6] at X M
    obtain ⟨R, k, σ1, τ1, k1, q1, q2, e1, e2, e3⟩ := bestB hs hb hl hd hw.1 hp'
    rw [e1] at X
    rw [e2] at M
    dsimp only at M
    rw [e3] at M
    exact ⟨_, _, _, X, M, scr LWC_c q1 q2 h⟩
  rw [if_neg c6] at X M
  by_cases c7 : b = 7
  · rw [if_pos c7] at X M
    obtain ⟨R, k, σ1, τ1, k1, q1, q2, e1, e2, e3⟩ := bestB hs hb hl hd hw.1 hp'
    have n12 := hl.2.1.1
    have h4 : 2 ^ L.nt ≤ 2 ^ 12 := Nat.pow_le_pow_right (by omega) n12
    obtain ⟨s', b', l', d'⟩ := scrP q1 q2 hs hb hl hd
    dsimp only [ltt] at X
    rw [hs.1, if_pos (landB_of hs.2.1), e1] at X
    dsimp only at X
    rw [honS_X s' l' (by omega)] at X
    rw [e2] at M
    dsimp only at M
    rw [e3] at M
    dsimp only at M
    rw [sum_M b' l' (by omega), if_neg (by decide)] at M
    exact ⟨_, _, _, X, M, scr LWC_c q1 q2 h⟩
  rw [if_neg c7] at X M
  by_cases c8 : b = 8
  · rw [if_pos c8] at X M
    obtain ⟨σ1, q1, e1⟩ := called_X hs hb hl hd hp'
    rw [e1] at X
    rw [called_M hb hl hd hp'] at M
    exact ⟨_, _, _, X, M, scr LWC_c q1 (ScM.rf m) h⟩
  rw [if_neg c8] at X M
  exact ⟨_, _, _, X, M, h⟩
theorem allBut2 (h2 : Step_2 RelF) : StepAll RelF :=
  ⟨step0 (congrB LWC_o), step1 (congrB LWC_o), h2, step3 _, step4 LWC, step5 LWC, step6 LWC, step7 LWC, step8F, step9 LWC, step10 LWC, step11, step12, step13, step14, step15, step16, step17 LWC, step18, step19, step20, step21, step22, step23 (congrB LWC_o), step24 LWC, step25 LWC, step26 LWC, step27 LWC, step28 LWC LWC_c, step29 LWC LWC_c, step30 LWC LWC_c, step31 LWC LWC_c, step32, step33 _, step34, step35 _⟩
