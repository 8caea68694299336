/-! ===== person ===== -/
section Person
variable {ld bk : Nat} {L : LD} {x m : St}
theorem hN_c (hs : RSt ld x) {σ : St} (h : ScX x σ) : hN σ ld = hN x ld ∧ wN σ ld = wN x ld :=
  ⟨funext fun t => by rw [hN, hN, (Tc hs h t).1], funext fun t => by rw [wN, wN, (Tc hs h t).2]⟩
theorem all_bits (n p : Nat) (hp : p < n) : (2 ^ n - 1).testBit p = true := by rw [Nat.testBit_two_pow_sub_one, decide_eq_true hp]
theorem all_X (hl : RLa ld bk L x m) : f_X4_allTitles ld x = some (nI (2 ^ L.nt - 1), x) := by
  have n12 := hl.2.1.1
  have h0 : 0 < 2 ^ L.nt := Nat.two_pow_pos _
  rw [e_X4_allTitles, hl.2.1.2.1, p2_I (by omega)]
  congr 2
  exact pk_sub (a := 2 ^ L.nt) (b := 1) (by omega)
theorem bestB (hs : RSt ld x) (hb : RBk bk m) (hl : RLa ld bk L x m) (hd : RDy L x m) (hw : LW ld bk L x m) {p : Nat} (hp : p < L.np) : ∃ R k σ' τ', R < 2 ^ L.nt ∧ ScX x σ' ∧ ScM m τ' ∧ f_X10_bestOfAll (nI p) x = some (nI R, σ') ∧ f_X11_limitOf (nI p) m = some (nI k, τ') ∧ f_X11_bestSet 4095 (nI k) τ' = some (nI R, τ') := by
  have n12 := hl.2.1.1
  have h4 : 2 ^ L.nt ≤ 2 ^ 12 := Nat.pow_le_pow_right (by omega) n12
  have h0 : 0 < 2 ^ L.nt := Nat.two_pow_pos _
  obtain ⟨k, σ1, τ1, k1, q1, q2, e1, e2⟩ := limB hs hb hl hd hw hp
  obtain ⟨s', b', l', d'⟩ := scrP q1 (ScM.rf m) hs hb hl hd
  obtain ⟨s2, b2, l2, d2⟩ := scrP (ScX.rf x) q2 hs hb hl hd
  obtain ⟨R, σ2, r1, r2, r3⟩ := best_X s' b' l' d' (S := 2 ^ L.nt - 1) (lm := k) (by omega) k1
  obtain ⟨R', r4, r5⟩ := best_M b2 l2 (S := 4095) (lm := k) (by omega) k1
  rw [(hN_c hs q1).1, (hN_c hs q1).2] at r1
  have : R = R' := (r1.congr (S' := 4095) (fun p hp => by rw [all_bits _ _ hp, show 4095 = 2 ^ 12 - 1 from rfl, all_bits _ _ (by omega)])).un r4
  subst this
  refine ⟨R, k, σ2, τ1, r1.1.1, q1.tr r2, q2, ?_, e2, r5⟩
  rw [e_X10_bestOfAll]
  dsimp only [ltt]
  rw [hs.1, if_pos (landB_of hs.2.1), if_pos (landB_of hs.2.1), all_X hl]
  dsimp only [Option.bind]
  rw [e1]
  dsimp only
  rw [r3]
theorem step8 : Step_8 (RelOf (RelB LW)) := by
  intro a b x m h
  obtain ⟨hA, ld, bk, L, hs, hb, hl, hw, hd⟩ := id h
  have h8 := hl.1.1
  have X := e_X10_person a b x
  have M := e_X11_person_ a b m
  rw [isP_X hs hl] at X
  rw [isP_M hb hl] at M
  dsimp only [Option.bind] at X M
  cases hp : inb a L.np
  · rw [hp, if_pos (by decide)] at X M
    exact ⟨_, _, _, X, M, h⟩
  rw [hp, if_neg (by decide)] at X M
  obtain ⟨p, hp', rfl⟩ := inb_of hp (by omega)
  obtain ⟨cN, c4, cx, cm⟩ := coat_cN hl hd (p := p) (by omega)
  by_cases c0 : b = 0
  · rw [if_pos c0] at X M
    rw [age_X hs hl hp'] at X
    rw [age_M hb hl hd hp'] at M
    exact ⟨_, _, _, X, M, h⟩
  rw [if_neg c0] at X M
  by_cases c1 : b = 1
  · rw [if_pos c1] at X M
    obtain ⟨k, σ1, τ1, k1, q1, q2, e1, e2⟩ := limB hs hb hl hd hw hp'
    rw [e1] at X
    rw [e2] at M
    exact ⟨_, _, _, X, M, scr LW_c q1 q2 h⟩
  rw [if_neg c1] at X M
  by_cases c2 : b = 2
  · rw [if_pos c2] at X M
    rw [load_X hs hl hd (by omega)] at X
    rw [load_M hb hl hd (by omega)] at M
    exact ⟨_, _, _, X, M, h⟩
  rw [if_neg c2] at X M
  by_cases c3 : b = 3
  · rw [if_pos c3] at X M
    rw [hon_X hs hl hd (by omega)] at X
    rw [if_pos (inb_nI (by omega) (by omega)), ix_nI (by omega), cm, sum_M hb hl (by omega), if_neg (by decide)] at M
    exact ⟨_, _, _, X, M, h⟩
  rw [if_neg c3] at X M
  by_cases c4 : b = 4
  · rw [if_pos c4] at X M
    rw [titlesOf_X hl hd (by omega)] at X
    rw [if_pos (inb_nI (by omega) (by omega)), ix_nI (by omega), cm] at M
    exact ⟨_, _, _, X, M, h⟩
  rw [if_neg c4] at X M
  by_cases c5 : b = 5
  · rw [if_pos c5] at X M
    rw [many_X (by omega)] at X
    rw [many_M hd (by omega)] at M
    exact ⟨_, _, _, X, M, h⟩
  rw [if_neg c5] at X M
  by_cases c6 : b = 6
  · rw [if_pos c6] at X M
    obtain ⟨R, k, σ1, τ1, k1, q1, q2, e1, e2, e3⟩ := bestB hs hb hl hd hw hp'
    rw [e1] at X
    rw [e2] at M
    dsimp only at M
    rw [e3] at M
    exact ⟨_, _, _, X, M, scr LW_c q1 q2 h⟩
  rw [if_neg c6] at X M
  by_cases c7 : b = 7
  · rw [if_pos c7] at X M
    obtain ⟨R, k, σ1, τ1, k1, q1, q2, e1, e2, e3⟩ := bestB hs hb hl hd hw hp'
    have n12 := hl.2.1.1
    have h4 : 2 ^ L.nt ≤ 2 ^ 12 := Nat.pow_le_pow_right (by omega) n12
    obtain ⟨s', b', l', d'⟩ := scrP q1 q2 hs hb hl hd
    dsimp only [ltt] at X
    rw [hs.1, if_pos (landB_of hs.2.1), e1] at X
    dsimp only at X
    rw [honS_X s' l' (by omega)] at X
    rw [e2] at M
    dsimp only at M
    rw [e3] at M
    dsimp only at M
    rw [sum_M b' l' (by omega), if_neg (by decide)] at M
    exact ⟨_, _, _, X, M, scr LW_c q1 q2 h⟩
  rw [if_neg c7] at X M
  by_cases c8 : b = 8
  · rw [if_pos c8] at X M
    obtain ⟨σ1, q1, e1⟩ := called_X hs hb hl hd hp'
    rw [e1] at X
    rw [called_M hb hl hd hp'] at M
    exact ⟨_, _, _, X, M, scr LW_c q1 (ScM.rf m) h⟩
  rw [if_neg c8] at X M
  exact ⟨_, _, _, X, M, h⟩
end Person
