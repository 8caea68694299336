/-! ===== giveBack, the step ===== -/
theorem step16 : Step_16 RelF := by
  intro a x m h
  obtain ⟨ld, bk, L, k0, rc⟩ := h.op
  obtain ⟨-, hs, hb, hl, hw, hd⟩ := id k0
  have h8 := hl.1.1
  have h12 := hl.2.1.1
  have l16 := land16 hs.2.1
  have rf : ∀ m1, f_X11_refuses 3 m1 = some (-1, sI m1 32 3 (gI m1 32 3 + 1)) := fun m1 => rf_M (k := 3) (by omega) m1
  have neg1 : ((-1 : Int32) < 0) := by decide
  obtain ⟨n, hn, n1, n2, n3⟩ := hd.2.2.2.2.2.2.1
  have lim3 : gI x 21 1 = nI 3 := (hs.2.2.2.2.1 21 (by simp [isRoll])).2
  have X := e_X1_undoLoan a x
  have M := e_X11_giveBack a m
  rw [n2, is_M (by omega)] at M
  simp only [rf, Option.bind, if_pos neg1] at M
  have bad : f_X1_undoLoan a x = some (0, x) → f_X11_giveBack a m = some (0, sI m 32 3 (gI m 32 3 + 1)) → ∃ r σx' σm', f_X10_giveBack a x = some (r, σx') ∧ f_X11_giveBack a m = some (r, σm') ∧ RelF σx' σm' := by
    intro q1 q2
    refine ⟨0, sI x 2 3 (gI x 2 3 + 1), _, ?_, q2, refuseF h (by omega)⟩
    rw [e_X10_giveBack, q1]
    dsimp only [Option.bind]
    rw [show (3 : Int32) = nI 3 from rfl, grt_no (by omega)]
    rfl
  cases hi : inb a n
  · rw [hi, if_pos (by decide)] at M
    have gno : ∀ j : Int32, f_X8_get 21 a j x = some (-1, x) := fun j => getR_no n1 lim3 (by omega) (by omega) (Or.inl hi)
    have cu : f_X1_canUndo a x = some (0, x) := by
      rw [e_X1_canUndo, gno]
      dsimp only [Option.bind]
      rw [gno]
      dsimp only
      rw [bears_no hs hl (Or.inl (inb_neg (by decide)))]
      rfl
    rw [cu] at X
    exact bad X M
  rw [hi, if_neg (by decide)] at M
  obtain ⟨i, hi', rfl⟩ := inb_of hi (by omega)
  obtain ⟨p, q, t, hp, hq, ht, g0, w0, g1, w1, g2, w2⟩ := n3 i hi'
  have G : ∀ (σ : St), (∀ k, gI σ 21 k = gI x 21 k) → (∀ k, gI σ 23 k = gI x 23 k) → ∀ j, j < 3 → f_X8_get 21 (nI i) (nI j) σ = some (gI x 23 (3 * i + j), σ) := by
    intro σ s21 s23 j hj
    have := getR (r := 21) (n := n) (w := 3) (σ := σ) (by rw [s21]; exact n1) (by rw [s21]; exact lim3) (by rw [show lnX (21 + 2) = 60 from rfl]; omega) (by rw [show lnX (21 + 2) = 60 from rfl]; omega) (by omega) (by omega) hi' hj
    rw [this, show 21 + 2 = 23 from rfl, s23]
  have G0 : f_X8_get 21 (nI i) 0 x = some (nI p, x) := by rw [← g0]; exact G x (fun _ => rfl) (fun _ => rfl) 0 (by omega)
  have G1 : f_X8_get 21 (nI i) 1 x = some (nI q, x) := by rw [← g1]; exact G x (fun _ => rfl) (fun _ => rfl) 1 (by omega)
  have G2 : f_X8_get 21 (nI i) 2 x = some (nI t, x) := by rw [← g2]; exact G x (fun _ => rfl) (fun _ => rfl) 2 (by omega)
  have cu : f_X1_canUndo (nI i) x = some (bi (hasT x q t && !hasT x p t), x) := by
    rw [e_X1_canUndo, G2]
    dsimp only [Option.bind]
    rw [G1]
    dsimp only
    rw [bears_X hs hl hd hq ht]
    dsimp only
    cases hasT x q t
    · rw [if_pos (by decide)]; rfl
    · rw [if_neg (by decide), G0]
      dsimp only
      rw [lacks_X hs hl hd hp ht]
      dsimp only
      cases hasT x p t
      · rw [if_neg (by decide)]; rfl
      · rw [if_pos (by decide)]; rfl
  have cb : f_X11_canBack (nI i) m = some (bi (hasT x q t && !hasT x p t), m) := by
    rw [e_X11_canBack, inb_nI (show i < 20 by omega) (by omega), if_pos rfl, if_pos rfl, ix_nI (by omega), w1, w2, hasT_M hl hd (by omega) (by omega)]
    dsimp only [Option.bind]
    cases hasT x q t
    · rw [if_pos (by decide)]; rfl
    · rw [if_neg (by decide), if_pos rfl, if_pos rfl, w0, w2, hasT_M hl hd (by omega) (by omega)]
      dsimp only
      cases hasT x p t
      · rw [if_pos (by decide)]; rfl
      · rw [if_neg (by decide)]; rfl
  rw [cu] at X
  rw [cb] at M
  dsimp only [Option.bind] at X M
  cases hc : (hasT x q t && !hasT x p t)
  · rw [hc, if_pos (by decide)] at X M
    exact bad X M
  rw [hc, if_neg (by decide)] at X M
  rw [Bool.and_eq_true, Bool.not_eq_true'] at hc
  obtain ⟨hq1, hp1⟩ := hc
  have hpq : p ≠ q := fun w => by rw [w, hq1] at hp1; cases hp1
  rw [G0] at X
  dsimp only at X
  rw [G1] at X
  dsimp only at X
  rw [G2] at X
  dsimp only at X
  rw [inb_nI (show i < 20 by omega) (by omega), ix_nI (by omega), w0, w1, w2] at M
  simp only [if_true, ltt] at M
  obtain ⟨x1, m1, f1, f2, kk1, cn, c7, tw, fx, fm⟩ := goB k0 hq ht hq1
  have hh1 : hasT x1 p t = false := by rw [hasT, c7 p hpq]; exact hp1
  obtain ⟨x2, m2, f3, f4, kk2, -, c72, tw2, fx2, fm2⟩ := comeB kk1 hp ht hh1
  rw [f1] at X
  rw [f2] at M
  dsimp only at X M
  rw [f3] at X
  rw [f4] at M
  dsimp only at X M
  have xf : ∀ o k, o ≠ 7 → o ≠ 10 → o ≠ 13 → o ≠ 14 → gI x2 o k = gI x o k := fun o k h1 h2 h3 h4 => by rw [fx2 o k h1 h2, fx o k h1 h4 (fun w => h3 w.1)]
  have mf : ∀ o k, o ≠ 35 → o ≠ 43 → o ≠ 42 → ¬ (o = 0 ∧ k = 64) → gI m2 o k = gI m o k := fun o k h1 h2 h3 h4 => by rw [fm2 o k h1 h2, fm o k h1 h3 h4]
  have g21 : ∀ k, gI x2 21 k = gI x 21 k := fun k => xf 21 k (by decide) (by decide) (by decide) (by decide)
  have g23 : ∀ k, gI x2 23 k = gI x 23 k := fun k => xf 23 k (by decide) (by decide) (by decide) (by decide)
  have m56 : gI m2 0 56 = nI n := by rw [mf 0 56 (by decide) (by decide) (by decide) (by decide)]; exact n2
  obtain ⟨x3, e3, s4, r3, fr3, gr3, gl3⟩ := rem_X (i := i) hn hi' (x0 := x2) (by rw [g21]; exact lim3) (n - 1 - i) i FU x2 (by omega) (Nat.le_refl _) (by rw [FU_eq]; omega) (by rw [g21]; exact n1) (fun k c hk hc => by unfold shf; rw [if_pos hk]) (fun _ _ _ _ => rfl) (fun _ _ _ _ => rfl) (fun _ _ => rfl) (fun _ _ => rfl)
  have er : f_X8_remove 21 (nI i) x2 = some ((), x3) := by
    rw [e_X8_remove, holds_X (by rw [g21]; exact n1) (by omega), inb_nI hi' (by omega)]
    dsimp only [Option.bind]
    rw [if_neg (by decide)]
    exact e3
  obtain ⟨m3, e4, s5, r4, fr4, gl4⟩ := rem_M (i := i) hn hi' (m0 := m2) (nI p) (nI q) (nI t) (n - 1 - i) i FU (sI m2 0 56 (nI (n - 1))) (by omega) (Nat.le_refl _) (by rw [FU_eq]; omega) (by rw [gI_sI, if_pos ⟨rfl, rfl⟩]) (fun o k ho hk => by unfold shf; rw [if_pos hk, gI_sI, if_neg (by omega)]) (fun o k ho hk => by rw [gI_sI, if_neg (by omega)]) (fun o k o1 o2 o3 o4 => by rw [gI_sI, if_neg o4]) (fun _ _ => rfl)
  have kk3 : K ld bk L x3 m3 := kk2.loans fr3 gr3 gl3 fr4 gl4 ⟨n - 1, by omega, s4, s5, fun j hj => by
    have hsj : shf i j < n := by unfold shf; split <;> omega
    obtain ⟨p', q', t', u1, u2, u3, u4, u5, u6, u7, u8, u9⟩ := n3 (shf i j) hsj
    have z0 := r3 j 0 hj (by omega)
    have z1 := r3 j 1 hj (by omega)
    have z2 := r3 j 2 hj (by omega)
    rw [g23] at z0 z1 z2
    refine ⟨p', q', t', u1, u2, u3, z0.trans u4, ?_, z1.trans u6, ?_, z2.trans u8, ?_⟩
    · rw [r4 37 j (Or.inl rfl) hj, mf 37 _ (by decide) (by decide) (by decide) (by omega)]; exact u5
    · rw [r4 38 j (Or.inr (Or.inl rfl)) hj, mf 38 _ (by decide) (by decide) (by decide) (by omega)]; exact u7
    · rw [r4 39 j (Or.inr (Or.inr rfl)) hj, mf 39 _ (by decide) (by decide) (by decide) (by omega)]; exact u9⟩
  obtain ⟨-, hs3, hb3, hl3, hw3, hd3⟩ := id kk3
  rw [er] at X
  dsimp only [ltt] at X
  rw [hs3.1, if_pos (landB_of hs3.2.1), e_X4_titleOunces, getT1 hs3 hl3 ht] at X
  dsimp only [Option.bind] at X
  obtain ⟨x4, m4, f5, f6, kk4, fx4, fm4⟩ := noteB kk3 5 (nI q) (nI p) (ozT x3 ld t)
  rw [f5] at X
  dsimp only at X
  rw [m56, show nI n - 1 = nI (n - 1) from pk_sub (a := n) (b := 1) (by omega), e4, ozT_M hb3 hl3 ht] at M
  dsimp only [Option.bind] at M
  rw [f6] at M
  dsimp only at M
  have fr : ∀ o k, o ≠ 7 → o ≠ 10 → o ≠ 13 → o ≠ 14 → o ≠ 19 → o ≠ 20 → o ≠ 21 → o ≠ 22 → o ≠ 23 → gI x4 o k = gI x o k := fun o k h1 h2 h3 h4 h5 h6 h7 h8 h9 => by
    rw [fx4 o k h6 (fun w => h5 w.1), fr3 o k h8 h9 (fun w => h7 w.1), xf o k h1 h2 h3 h4]
  have s7 : ∀ k, gI x4 7 k = gI x2 7 k := fun k => by rw [fx4 7 k (by decide) (by omega), fr3 7 k (by decide) (by decide) (by omega)]
  have s8 : ∀ k, gI x4 8 k = gI x2 8 k := fun k => by rw [fx4 8 k (by decide) (by omega), fr3 8 k (by decide) (by decide) (by omega)]
  refine ⟨1, x4, m4, ?_, M, kk4.rel (rc.t (fun r j h1 h2 h3 => ?_) (fun W => ?_) (fr 6 2 (by decide) (by decide) (by decide) (by decide) (by decide) (by decide) (by decide) (by decide) (by decide)) (fr 6 3 (by decide) (by decide) (by decide) (by decide) (by decide) (by decide) (by decide) (by decide) (by decide)) (fun k => fr 9 k (by decide) (by decide) (by decide) (by decide) (by decide) (by decide) (by decide) (by decide) (by decide)) (fun k => fr _ k (by omega) (by omega) (by omega) (by omega) (by omega) (by omega) (by omega) (by omega) (by omega)))⟩
  · rw [e_X10_giveBack, X]
    dsimp only [Option.bind]
    rw [grt_ok (by decide)]
    rfl
  · rw [loN, loN, s8, xf 8 _ (by decide) (by decide) (by decide) (by decide)]
  · rw [TW_c s7 s8, tw2, tw]
    exact Nat.le_refl _
