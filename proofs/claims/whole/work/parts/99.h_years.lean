/-! ===== years ===== -/
section Years
variable {ld bk : Nat} {L : LD}
theorem K.nts {x m : St} (h : K ld bk L x m) : L.np ≤ 8 ∧ L.nt ≤ 12 := ⟨h.2.2.2.1.1.1, h.2.2.2.1.2.1.1⟩
theorem lightLoop {p R : Nat} (hp : p < L.np) (hR : R < 2 ^ 31) : ∀ d i n n' c (x m : St), K ld bk L x m → RCon ld L x → i + d = L.nt → d < n → d < n' → ∃ c' x' m', f_X1_lighten_75 n (nI p) (nI R) (nI c) (nI i) x = some (nI c', x') ∧ f_X11_yearOf_55 n' (nI p) (nI R) (nI c) (nI i) m = some (nI c', m') ∧ K ld bk L x' m' ∧ RCon ld L x' ∧ c' ≤ c + d := by
  intro d
  induction d with
  | zero =>
    intro i n n' c x m h rc hi hn hn'
    obtain ⟨n, rfl⟩ : ∃ k, n = k + 1 := ⟨n - 1, by omega⟩
    obtain ⟨n', rfl⟩ : ∃ k, n' = k + 1 := ⟨n' - 1, by omega⟩
    obtain ⟨-, hs, hb, hl, hw, hd⟩ := id h
    have h12 := hl.2.1.1
    refine ⟨c, x, m, ?_, ?_, h, rc, by omega⟩
    · rw [e_X1_lighten_75]
      dsimp only [ltt]
      rw [hs.1, if_pos (landB_of hs.2.1), hl.2.1.2.1, if_pos (nI_le (by omega) (by omega))]
    · rw [e_X11_yearOf_55, hb.2, (bk_ix hb.1).1, if_pos rfl, (bk_ix hb.1).2, hl.2.1.2.2, if_pos (nI_le (by omega) (by omega))]
  | succ d ih =>
    intro i n n' c x m h rc hi hn hn'
    obtain ⟨n, rfl⟩ : ∃ k, n = k + 1 := ⟨n - 1, by omega⟩
    obtain ⟨n', rfl⟩ : ∃ k, n' = k + 1 := ⟨n' - 1, by omega⟩
    obtain ⟨-, hs, hb, hl, hw, hd⟩ := id h
    have h8 := hl.1.1
    have h12 := hl.2.1.1
    have l16 := land16 hs.2.1
    have hit : i < L.nt := by omega
    have X := e_X1_lighten_75 n (nI p) (nI R) (nI c) (nI i) x
    have M := e_X11_yearOf_55 n' (nI p) (nI R) (nI c) (nI i) m
    dsimp only [ltt] at X
    rw [hs.1, if_pos (landB_of hs.2.1), hl.2.1.2.1, if_neg (nI_ge hit (by omega)), bit_I hR (by omega), nI_1, nI_1] at X
    rw [hb.2, (bk_ix hb.1).1, if_pos rfl, (bk_ix hb.1).2, hl.2.1.2.2, if_neg (nI_ge hit (by omega)), hasT_M hl hd (by omega) (by omega), bit_I hR (by omega), nI_1, nI_1] at M
    dsimp only [Option.bind] at X M
    cases hRi : R.testBit i
    · rw [hRi, if_pos (by decide)] at X
      rw [hRi] at M
      cases hh : hasT x p i
      · rw [hh, if_pos (by decide)] at M
        rw [e_X1_dropTitle, bears_X hs hl hd hp hit, hh] at X
        dsimp only [Option.bind] at X
        rw [if_pos (by decide)] at X
        dsimp only at X
        rw [if_pos rfl] at X
        rw [X, M]
        obtain ⟨c', x', m', g1, g2, g3, g4, g5⟩ := ih (i + 1) n n' c x m h rc (by omega) (by omega) (by omega)
        exact ⟨c', x', m', g1, g2, g3, g4, by omega⟩
      · rw [hh, if_neg (by decide), if_neg (by decide)] at M
        obtain ⟨x1, m1, e1, e2, k1, -, tw, lo, fx⟩ := dropB h rc.2.1 hp hit hh
        obtain ⟨-, hs1, hb1, hl1, hw1, hd1⟩ := id k1
        obtain ⟨n1, n2⟩ := load_N hl1 hd1 (p := p) (by omega)
        rw [e1, n1] at X
        dsimp only at X
        rw [if_neg (nI_ne1 (by omega))] at X
        rw [e2] at M
        dsimp only at M
        rw [X, M]
        obtain ⟨c', x', m', g1, g2, g3, g4, g5⟩ := ih (i + 1) n n' (c + 1) x1 m1 k1 (rc.t (fun q k h1 h2 h3 => lo _ (by omega)) (fun W => Nat.le_of_eq (tw W)) (fx 6 2 (by decide) (by decide) (by decide) (by decide) (by decide) (by decide)) (fx 6 3 (by decide) (by decide) (by decide) (by decide) (by decide) (by decide)) (fun k => fx 9 k (by decide) (by decide) (by decide) (by decide) (by decide) (by decide)) (fun k => fx _ k (by omega) (by omega) (by omega) (by omega) (by omega) (by omega))) (by omega) (by omega) (by omega)
        exact ⟨c', x', m', g1, g2, g3, g4, by omega⟩
    · rw [hRi, if_neg (by decide)] at X
      rw [hRi, if_pos (show bi true = 1 from rfl)] at M
      rw [X]
      have M' : f_X11_yearOf_55 (n' + 1) (nI p) (nI R) (nI c) (nI i) m = f_X11_yearOf_55 n' (nI p) (nI R) (nI c) (nI (i + 1)) m := by
        rw [M]
        split <;> rfl
      rw [M']
      obtain ⟨c', x', m', g1, g2, g3, g4, g5⟩ := ih (i + 1) n n' c x m h rc (by omega) (by omega) (by omega)
      exact ⟨c', x', m', g1, g2, g3, g4, by omega⟩
theorem lightB {p : Nat} {x m : St} (h : K ld bk L x m) (rc : RCon ld L x) (hp : p < L.np) : ∃ c' x' m', f_X1_lighten (nI p) x = some (nI c', x') ∧ f_X11_yearOf (nI p) m = some (nI c', m') ∧ K ld bk L x' m' ∧ RCon ld L x' ∧ c' ≤ 12 := by
  obtain ⟨-, hs, hb, hl, hw, hd⟩ := id h
  have h8 := hl.1.1
  have h12 := hl.2.1.1
  have l16 := land16 hs.2.1
  obtain ⟨k, σ1, τ1, k9, q1, q2, e1, e2⟩ := limB hs hb hl hd hw hp
  obtain ⟨n1, n2⟩ := load_N hl hd (p := p) (by omega)
  have ks := h.sc q1 q2
  have rcs : RCon ld L σ1 := (LWC_c ld bk L x m σ1 τ1 q1 q2 hs.2.1 hb.1 ⟨hw, rc⟩).2
  obtain ⟨-, hs1, hb1, hl1, hw1, hd1⟩ := id ks
  have X := e_X1_lighten (nI p) x
  have M := e_X11_yearOf (nI p) m
  rw [e1] at X
  dsimp only [Option.bind] at X
  rw [load_X hs1 hl1 hd1 (by omega), loadS_c hs q1, n1] at X
  dsimp only at X
  rw [load_M hb hl hd (by omega), n1] at M
  dsimp only [Option.bind] at M
  rw [e2] at M
  dsimp only at M
  by_cases c : nI k < nI (loadN x ld L p)
  · rw [if_pos c] at X M
    obtain ⟨x2, m2, f1, f2, k2, tw2, lo2, fx2, fm2⟩ := pourB ks rcs.2.1 (p := p) (by omega)
    have rc2 : RCon ld L x2 := rcs.t (fun q j h1 h2 h3 => lo2 _ (by omega) (by omega)) (fun W => Nat.le_of_eq (tw2 W)) (fx2 6 2 (by decide)) (fx2 6 3 (by decide)) (fun k => fx2 9 k (by decide)) (fun k => fx2 _ k (by omega))
    obtain ⟨-, hs2, hb2, hl2, hw2, hd2⟩ := id k2
    obtain ⟨k', σ3, τ3, k9', q3, q4, e3, e4⟩ := limB hs2 hb2 hl2 hd2 hw2 hp
    have hkk : k' = k := by
      obtain ⟨v, s1, s2, v1, v2⟩ := limE h k2 hp (fun j i hj => by
        have e8 : ld + j ≠ 8 := by rcases hs.2.1 with w | w <;> omega
        rw [fx2 _ i e8]
        refine q1.1 _ _ ?_
        rcases hs.2.1 with w | w <;> subst w <;> simp [xS] <;> omega) (by rw [fx2 6 1 (by decide), q1.1 6 1 rfl]) (by rw [fx2 7 p (by decide), q1.1 7 p rfl])
      rw [e1] at v1
      rw [e3] at v2
      have a1 := congrArg (fun o => o.map Prod.fst) v1
      have a2 := congrArg (fun o => o.map Prod.fst) v2
      simp only [Option.map_some, Option.some.injEq] at a1 a2
      exact (nI_eq (by omega) (by omega)).mp (a2.trans a1.symm)
    subst hkk
    obtain ⟨n3, n4⟩ := load_N hl2 hd2 (p := p) (by omega)
    have k3 := k2.sc (ScX.rf x2) q4
    obtain ⟨-, hs3, hb3, hl3, hw3, hd3⟩ := id k3
    rw [f1] at X
    rw [f2] at M
    dsimp only at X M
    rw [load_X hs2 hl2 hd2 (by omega), n3] at X
    dsimp only at X
    rw [e4] at M
    dsimp only at M
    rw [load_M hb3 hl3 hd3 (by omega), n3] at M
    dsimp only at M
    by_cases c2 : nI k' < nI (loadN x2 ld L p)
    · rw [if_pos c2] at X M
      obtain ⟨cN, c4, cx, cm⟩ := coat_cN hl3 hd3 (p := p) (by omega)
      obtain ⟨R, σ4, r1, r2, r3⟩ := best_X hs2 hb2 hl2 hd2 (S := coatN x2 p) (lm := k') c4 k9
      obtain ⟨R', r4, r5⟩ := best_M hb3 hl3 (S := coatN x2 p) (lm := k') c4 k9
      have : R = R' := r1.un r4
      subst this
      dsimp only [ltt] at X
      rw [hs2.1, if_pos (landB_of hs2.2.1), titlesOf_X hl2 hd2 (by omega)] at X
      dsimp only [Option.bind] at X
      rw [r3] at X
      dsimp only at X
      rw [if_pos (inb_nI (by omega) (by omega)), ix_nI (by omega), cm, r5] at M
      dsimp only at M
      have R31 : R < 2 ^ 31 := by
        have := r1.1.1
        have : 2 ^ L.nt ≤ 2 ^ 12 := Nat.pow_le_pow_right (by omega) h12
        omega
      have k4 := k3.sc r2 (ScM.rf τ3)
      have rc4 : RCon ld L σ4 := (LWC_c ld bk L x2 τ3 σ4 τ3 r2 (ScM.rf τ3) hs.2.1 hb.1 ⟨hw3, rc2⟩).2
      obtain ⟨c', x', m', g1, g2, g3, g4, g5⟩ := lightLoop hp R31 L.nt 0 FU FU 0 σ4 τ3 k4 rc4 (by omega) (by rw [FU_eq]; omega) (by rw [FU_eq]; omega)
      exact ⟨c', x', m', X.trans g1, M.trans g2, g3, g4, by omega⟩
    · rw [if_neg c2] at X M
      exact ⟨0, x2, τ3, X, M, k3, rc2, by omega⟩
  · rw [if_neg c] at X M
    exact ⟨0, σ1, τ1, X, M, ks, rcs, by omega⟩
theorem personsLoop (KX KM : Int32 → Int32 → Int32 → St → Option (Int32 × St)) (a y : Int32) : ∀ d i n n' c (x m : St), K ld bk L x m → RCon ld L x → i + d = L.np → d < n → d < n' → ∃ c' x' m', f_X1_passYears_47 KX n a (nI c) y (nI i) x = KX a (nI c') (y + 1) x' ∧ f_X11_years_55 KM n' a (nI c) y (nI i) m = KM a (nI c') (y + 1) m' ∧ K ld bk L x' m' ∧ RCon ld L x' ∧ c' ≤ c + 12 * d := by
  intro d
  induction d with
  | zero =>
    intro i n n' c x m h rc hi hn hn'
    obtain ⟨n, rfl⟩ : ∃ k, n = k + 1 := ⟨n - 1, by omega⟩
    obtain ⟨n', rfl⟩ : ∃ k, n' = k + 1 := ⟨n' - 1, by omega⟩
    obtain ⟨-, hs, hb, hl, hw, hd⟩ := id h
    have h8 := hl.1.1
    refine ⟨c, x, m, ?_, ?_, h, rc, by omega⟩
    · rw [e_X1_passYears_47]
      dsimp only [ltt]
      rw [hs.1, if_pos (landB_of hs.2.1), hl.1.2.1, if_pos (nI_le (by omega) (by omega))]
    · rw [e_X11_years_55, hb.2, (bk_ix hb.1).1, if_pos rfl, (bk_ix hb.1).2, hl.1.2.2, if_pos (nI_le (by omega) (by omega))]
  | succ d ih =>
    intro i n n' c x m h rc hi hn hn'
    obtain ⟨n, rfl⟩ : ∃ k, n = k + 1 := ⟨n - 1, by omega⟩
    obtain ⟨n', rfl⟩ : ∃ k, n' = k + 1 := ⟨n' - 1, by omega⟩
    obtain ⟨-, hs, hb, hl, hw, hd⟩ := id h
    have h8 := hl.1.1
    obtain ⟨c1, x1, m1, e1, e2, k1, rc1, b1⟩ := lightB h rc (show i < L.np by omega)
    obtain ⟨c', x', m', f1, f2, k2, rc2, b2⟩ := ih (i + 1) n n' (c + c1) x1 m1 k1 rc1 (by omega) (by omega) (by omega)
    refine ⟨c', x', m', ?_, ?_, k2, rc2, by omega⟩
    · rw [e_X1_passYears_47]
      dsimp only [ltt]
      rw [hs.1, if_pos (landB_of hs.2.1), hl.1.2.1, if_neg (nI_ge (by omega) (by omega)), e1]
      dsimp only [Option.bind]
      rw [nI_add, nI_1]
      exact f1
    · rw [e_X11_years_55, hb.2, (bk_ix hb.1).1, if_pos rfl, (bk_ix hb.1).2, hl.1.2.2, if_neg (nI_ge (by omega) (by omega)), e2]
      dsimp only [Option.bind, ltt]
      rw [nI_add, nI_1]
      exact f2
theorem yearsLoop {A : Nat} (hA : A ≤ 60) : ∀ d j n n' c (x m : St), K ld bk L x m → RCon ld L x → j + d = A → d < n → d < n' → ∃ c' x' m', f_X1_passYears_17 n (nI A) (nI c) (nI j) x = some (nI c', x') ∧ f_X11_years_20 n' (nI A) (nI c) (nI j) m = some (nI c', m') ∧ K ld bk L x' m' ∧ RCon ld L x' ∧ c' ≤ c + 96 * d := by
  intro d
  induction d with
  | zero =>
    intro j n n' c x m h rc hi hn hn'
    obtain ⟨n, rfl⟩ : ∃ k, n = k + 1 := ⟨n - 1, by omega⟩
    obtain ⟨n', rfl⟩ : ∃ k, n' = k + 1 := ⟨n' - 1, by omega⟩
    exact ⟨c, x, m, by rw [e_X1_passYears_17, if_pos (nI_le (by omega) (by omega))], by rw [e_X11_years_20, if_pos (nI_le (by omega) (by omega))], h, rc, by omega⟩
  | succ d ih =>
    intro j n n' c x m h rc hi hn hn'
    obtain ⟨n, rfl⟩ : ∃ k, n = k + 1 := ⟨n - 1, by omega⟩
    obtain ⟨n', rfl⟩ : ∃ k, n' = k + 1 := ⟨n' - 1, by omega⟩
    obtain ⟨-, hs, hb, hl, hw, hd⟩ := id h
    have h8 := hl.1.1
    have l16 := land16 hs.2.1
    obtain ⟨y, hy, y1, y2⟩ := hd.1
    obtain ⟨r, hr, r1, r2⟩ := hd.2.1
    have k1 : K ld bk L (sI x 6 1 (nI (min 999 (y + 1)))) (sI m 0 52 (nI (min 999 (y + 1)))) := h.yr (y := min 999 (y + 1)) (by omega) hr (fun o k e => by rw [gI_sI, if_neg (fun q => e ⟨q.1, Or.inl q.2⟩)]) (fun _ _ => rfl) (fun _ _ => rfl) (fun o k e => by rw [gI_sI, if_neg (fun q => e ⟨q.1, Or.inl q.2⟩)]) (fun _ _ => rfl) (by rw [gI_sI, if_pos ⟨rfl, rfl⟩]) (by rw [gI_sI, if_pos ⟨rfl, rfl⟩]) (by rw [gI_sI, if_neg (by decide)]; exact r1) (by rw [gI_sI, if_neg (by decide)]; exact r2)
    have rc1 : RCon ld L (sI x 6 1 (nI (min 999 (y + 1)))) := rc.c (fun k => by rw [gI_sI, if_neg (by omega)]) (fun k => by rw [gI_sI, if_neg (by omega)]) (by rw [gI_sI, if_neg (by decide)]) (by rw [gI_sI, if_neg (by decide)]) (fun k => by rw [gI_sI, if_neg (by omega)]) (fun k => by rw [gI_sI, if_neg (by omega)])
    obtain ⟨c1, x2, m2, e1, e2, k2, rc2, b1⟩ := personsLoop (f_X1_passYears_17 n) (f_X11_years_20 n') (nI A) (nI j) L.np 0 FU FU c _ _ k1 rc1 (by omega) (by rw [FU_eq]; omega) (by rw [FU_eq]; omega)
    obtain ⟨c', x', m', f1, f2, k3, rc3, b2⟩ := ih (j + 1) n n' c1 x2 m2 k2 rc2 (by omega) (by omega) (by omega)
    refine ⟨c', x', m', ?_, ?_, k3, rc3, by omega⟩
    · rw [e_X1_passYears_17, if_neg (nI_ge (by omega) (by omega)), y1, nI_1, show (999 : Int32) = nI 999 from rfl, min_I (by omega) (by omega)]
      dsimp only [Option.bind, ltt]
      refine Eq.trans e1 ?_
      rw [nI_1]
      exact f1
    · rw [e_X11_years_20, if_neg (nI_ge (by omega) (by omega)), y2]
      dsimp only [ltt]
      have em : (if (999 : Int32) ≤ nI y then f_X11_years_55 (f_X11_years_20 n') FU (nI A) (nI c) (nI j) 0 (sI m 0 52 (nI y)) else f_X11_years_55 (f_X11_years_20 n') FU (nI A) (nI c) (nI j) 0 (sI m 0 52 (nI y + 1))) = f_X11_years_55 (f_X11_years_20 n') FU (nI A) (nI c) (nI j) 0 (sI m 0 52 (nI (min 999 (y + 1)))) := by
        by_cases w : 999 ≤ y
        · rw [if_pos (show (999 : Int32) ≤ nI y from nI_le (a := 999) w (by omega)), show min 999 (y + 1) = y by omega]
        · rw [if_neg (show ¬ (999 : Int32) ≤ nI y from nI_ge (b := 999) (by omega) (by omega)), nI_1, show min 999 (y + 1) = y + 1 by omega]
      rw [em]
      refine Eq.trans e2 ?_
      rw [nI_1]
      exact f2
theorem step21 : Step_21 RelF := by
  intro a x m h
  obtain ⟨ld, bk, L, k0, rc⟩ := h.op
  have X := e_X1_passYears a x
  have M := e_X11_years a m
  rw [e_X11_is] at M
  have rf : f_X11_refuses 4 m = some (-1, sI m 32 4 (gI m 32 4 + 1)) := rf_M (k := 4) (by omega) m
  have bad : f_X1_passYears a x = some (-1, x) → f_X11_years a m = some (-1, sI m 32 4 (gI m 32 4 + 1)) → ∃ r σx' σm', f_X10_years a x = some (r, σx') ∧ f_X11_years a m = some (r, σm') ∧ RelF σx' σm' := by
    intro q1 q2
    refine ⟨-1, sI x 2 4 (gI x 2 4 + 1), _, ?_, q2, refuseF h (by omega)⟩
    rw [e_X10_years, q1]
    dsimp only [Option.bind]
    rw [show (4 : Int32) = nI 4 from rfl, cnt_X (by omega)]
  by_cases c0 : a < 1
  · rw [if_pos c0] at X M
    dsimp only [Option.bind] at M
    rw [if_pos rfl, rf] at M
    exact bad X M
  rw [if_neg c0] at X M
  have c00 : ¬ a < 0 := fun q => c0 (Int32.lt_trans q (by decide))
  obtain ⟨A, hA, rfl⟩ := nI_of c00
  by_cases c1 : A ≤ 60
  · rw [if_pos (show nI A ≤ (60 : Int32) from nI_le (b := 60) c1 (by omega))] at X
    rw [if_neg (show ¬ (60 : Int32) < nI A from nI_nlt (a := 60) c1 (by omega))] at M
    dsimp only [Option.bind] at M
    rw [if_neg (by decide)] at M
    obtain ⟨c', x', m', g1, g2, g3, g4, g5⟩ := yearsLoop c1 A 0 FU FU 0 x m k0 rc (by omega) (by rw [FU_eq]; omega) (by rw [FU_eq]; omega)
    have X' : f_X1_passYears (nI A) x = some (nI c', x') := X.trans g1
    have M' : f_X11_years (nI A) m = some (nI c', m') := M.trans g2
    exact ⟨nI c', x', m', by rw [e_X10_years, X']; dsimp only [Option.bind]; rw [cnt_ok (nI_ne1 (by omega))], M', g3.rel g4⟩
  · rw [if_neg (show ¬ nI A ≤ (60 : Int32) from nI_ge (a := 60) (by omega) hA)] at X
    rw [if_pos (show (60 : Int32) < nI A from nI_lt (a := 60) (by omega) hA)] at M
    dsimp only [Option.bind] at M
    rw [if_pos rfl, rf] at M
    exact bad X M
end Years
