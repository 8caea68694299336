/-! ===== heir, the step ===== -/
theorem step20 : Step_20 RelF := by
  intro a b x m h
  obtain ⟨ld, bk, L, k0, rc⟩ := h.op
  obtain ⟨-, hs, hb, hl, hw, hd⟩ := id k0
  have h8 := hl.1.1
  have h12 := hl.2.1.1
  have l16 := land16 hs.2.1
  have hnt : 2 ^ L.nt ≤ 2 ^ 12 := Nat.pow_le_pow_right (by omega) h12
  have rf : ∀ m1, f_X11_refuses 3 m1 = some (-1, sI m1 32 3 (gI m1 32 3 + 1)) := fun m1 => rf_M (k := 3) (by omega) m1
  have X := e_X1_inherit a b x
  have M := e_X11_heir a b m
  rw [isP_X hs hl] at X
  rw [isP_M hb hl] at M
  simp only [rf, Option.bind] at X M
  have bad : f_X1_inherit a b x = some (-1, x) → f_X11_heir a b m = some (-1, sI m 32 3 (gI m 32 3 + 1)) → ∃ r σx' σm', f_X10_heir a b x = some (r, σx') ∧ f_X11_heir a b m = some (r, σm') ∧ RelF σx' σm' := by
    intro q1 q2
    refine ⟨-1, sI x 2 3 (gI x 2 3 + 1), _, ?_, q2, refuseF h (by omega)⟩
    rw [e_X10_heir, q1]
    dsimp only [Option.bind]
    rw [show (3 : Int32) = nI 3 from rfl, cnt_X (by omega)]
  cases hp : inb a L.np
  · rw [hp, if_pos (by decide)] at X M
    exact bad X M
  rw [hp, if_neg (by decide)] at X M
  rw [isP_X hs hl] at X
  rw [isP_M hb hl] at M
  dsimp only at X M
  cases hq : inb b L.np
  · rw [hq, if_pos (by decide)] at X M
    exact bad X M
  rw [hq, if_neg (by decide)] at X M
  by_cases hab : a = b
  · rw [if_pos hab] at X M
    exact bad X M
  rw [if_neg hab] at X M
  obtain ⟨p, hp', rfl⟩ := inb_of hp (by omega)
  obtain ⟨q, hq', rfl⟩ := inb_of hq (by omega)
  have hpq : p ≠ q := fun w => hab (by rw [w])
  obtain ⟨k, σ1, τ1, k1, q1, q2, e1, e2⟩ := limB hs hb hl hd hw hq'
  have ks := k0.sc q1 q2
  have rcs : RCon ld L σ1 := (LWC_c ld bk L x m σ1 τ1 q1 q2 hs.2.1 hb.1 ⟨hw, rc⟩).2
  obtain ⟨-, hs1, hb1, hl1, hw1, hd1⟩ := id ks
  obtain ⟨n1, n2⟩ := load_N hl1 hd1 (p := q) (by omega)
  obtain ⟨cp, cp4, cpx, cpm⟩ := coat_cN hl1 hd1 (p := p) (by omega)
  obtain ⟨cq, cq4, cqx, cqm⟩ := coat_cN hl1 hd1 (p := q) (by omega)
  rw [e1] at X
  rw [e2] at M
  dsimp only at X M
  rw [load_X hs1 hl1 hd1 (by omega), n1] at X
  rw [load_M hb1 hl1 hd1 (by omega), n1] at M
  dsimp only [ltt] at X M
  -- how much may still be borne
  have z0 : (0 : Int32).toInt = 0 := rfl
  have ts : (nI k - nI (loadN σ1 ld L q)).toInt = (k : Int) - loadN σ1 ld L q := pk_sub_toInt (by omega) (by omega)
  have mx : f_J9_max_7cf53 0 (nI k - nI (loadN σ1 ld L q)) σ1 = some (nI (k - loadN σ1 ld L q), σ1) := by
    rw [e_J9_max_7cf53]
    by_cases c : loadN σ1 ld L q < k
    · rw [if_pos (by rw [Int32.lt_iff_toInt_lt, ts, z0]; omega), pk_sub (by omega)]
    · rw [if_neg (fun w => by rw [Int32.lt_iff_toInt_lt, ts, z0] at w; omega), show k - loadN σ1 ld L q = 0 by omega]
      rfl
  rw [mx] at X
  dsimp only at X
  rw [titlesOf_X hl1 hd1 (by omega)] at X
  dsimp only at X
  rw [titlesOf_X hl1 hd1 (by omega)] at X
  dsimp only at X
  rw [diff_I, hs1.1, if_pos (landB_of hs1.2.1)] at X
  have S4 : coatN σ1 p ^^^ (coatN σ1 p &&& coatN σ1 q) < 4096 := by
    have h1 : (coatN σ1 p &&& coatN σ1 q) &&& coatN σ1 p = coatN σ1 p &&& coatN σ1 q := by rw [Nat.and_comm (coatN σ1 p) (coatN σ1 q), Nat.and_assoc, Nat.and_self]
    have := sub_lt (rest_s h1)
    omega
  obtain ⟨R, σ2, r1, r2, r3⟩ := best_X hs1 hb1 hl1 hd1 (S := coatN σ1 p ^^^ (coatN σ1 p &&& coatN σ1 q)) (lm := k - loadN σ1 ld L q) S4 (by omega)
  obtain ⟨R', r4, r5⟩ := best_M hb1 hl1 (S := coatN σ1 p ^^^ (coatN σ1 p &&& coatN σ1 q)) (lm := k - loadN σ1 ld L q) S4 (by omega)
  have : R = R' := r1.un r4
  subst this
  rw [r3] at X
  dsimp only at X
  rw [inb_nI (show p < 8 by omega) (by omega), inb_nI (show q < 8 by omega) (by omega), ix_nI (show p < 2 ^ 31 by omega), ix_nI (show q < 2 ^ 31 by omega), cpm, cqm, diff_I] at M
  simp only [if_true] at M
  have M2 : f_X11_heir (nI p) (nI q) m = f_X11_heir_72 FU (nI p) (nI q) (nI R) 0 τ1 := by
    by_cases c : loadN σ1 ld L q ≤ k
    · rw [if_pos (by rw [Int32.le_iff_toInt_le, ts, z0]; omega), pk_sub c, r5] at M
      exact M
    · rw [if_neg (fun w => by rw [Int32.le_iff_toInt_le, ts, z0] at w; omega), show (0 : Int32) = nI (k - loadN σ1 ld L q) by rw [show k - loadN σ1 ld L q = 0 by omega]; rfl, r5] at M
      rw [show nI (k - loadN σ1 ld L q) = (0 : Int32) by rw [show k - loadN σ1 ld L q = 0 by omega]; rfl] at M
      exact M
  have k2 := ks.sc r2 (ScM.rf τ1)
  have rc2 : RCon ld L σ2 := (LWC_c ld bk L σ1 τ1 σ2 τ1 r2 (ScM.rf τ1) hs.2.1 hb.1 ⟨hw1, rcs⟩).2
  have R31 : R < 2 ^ 31 := by have := r1.1.1; omega
  obtain ⟨x3, m3, f1, f2, k3, tw3, lo3, fr3⟩ := heirLoop hp' hq' hpq R31 L.nt 0 FU FU σ2 τ1 k2 rc2.2.1 (by omega) (by rw [FU_eq]; omega) (by rw [FU_eq]; omega) (fun t _ ht hR => by
    have e := sub_t r1.1.2.1 hR
    rw [diff_t, Bool.and_eq_true, Bool.not_eq_true'] at e
    rw [hasT, r2.1 7 q rfl]
    exact e.2)
  have f1' : f_X1_inherit_94 FU (nI p) (nI q) (nI R) 0 σ2 = _ := f1
  have f2' : f_X11_heir_72 FU (nI p) (nI q) (nI R) 0 τ1 = _ := f2
  rw [f1'] at X
  rw [f2'] at M2
  obtain ⟨x4, m4, g1, g2, k4, tw4, lo4, fx4, fm4⟩ := pourB k3 (by rw [tw3]; exact rc2.2.1) (p := p) (by omega)
  obtain ⟨-, hs4, hb4, hl4, hw4, hd4⟩ := id k4
  rw [g1] at X
  rw [g2] at M2
  dsimp only [Option.bind, ltt] at X M2
  rw [hs4.1, if_pos (landB_of hs4.2.1), ozS_X hs4 hl4 R31] at X
  rw [sum_M hb4 hl4 R31, if_pos rfl] at M2
  dsimp only at X M2
  obtain ⟨x5, m5, g5, g6, k5, fx5, fm5⟩ := noteB k4 8 (nI p) (nI q) (sumT (ozT x4 ld) R L.nt)
  rw [g5] at X
  rw [g6] at M2
  dsimp only at X M2
  have s7 : ∀ k, gI x5 7 k = gI x4 7 k := fun k => fx5 7 k (by decide) (by omega)
  have s8 : ∀ k, gI x5 8 k = gI x4 8 k := fun k => fx5 8 k (by decide) (by omega)
  have fr : ∀ o k, o ≠ 7 → o ≠ 8 → o ≠ 10 → o ≠ 13 → o ≠ 14 → o ≠ 19 → o ≠ 20 → gI x5 o k = gI σ2 o k := fun o k h1 h2 h3 h4 h5 h6 h7 => by rw [fx5 o k h7 (fun w => h6 w.1), fx4 o k h2, fr3 o k h1 h2 h3 h4 h5]
  refine ⟨nI R, x5, m5, ?_, M2, k5.rel (rc2.t (fun r j h1 h2 h3 => ?_) (fun W => ?_) (fr 6 2 (by decide) (by decide) (by decide) (by decide) (by decide) (by decide) (by decide)) (fr 6 3 (by decide) (by decide) (by decide) (by decide) (by decide) (by decide) (by decide)) (fun k => fr 9 k (by decide) (by decide) (by decide) (by decide) (by decide) (by decide) (by decide)) (fun k => fr _ k (by omega) (by omega) (by omega) (by omega) (by omega) (by omega) (by omega)))⟩
  · rw [e_X10_heir, X]
    dsimp only [Option.bind]
    rw [cnt_ok (nI_ne1 R31)]
  · rw [loN, s8, ← loN, lo4 _ (by omega) (by omega), lo3 _ (by omega)]
  · rw [TW_c s7 s8, tw4, tw3]
    exact Nat.le_refl _
