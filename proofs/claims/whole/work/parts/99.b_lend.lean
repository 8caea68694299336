/-! ===== lend ===== -/
section Lend
variable {ld bk : Nat} {L : LD} {x m : St}
def D7 (L : LD) (x m : St) : Prop := ∃ n, n ≤ 20 ∧ gI x 21 4 = nI n ∧ gI m 0 56 = nI n ∧ ∀ k, k < n → ∃ p q t, p < L.np ∧ q < L.np ∧ t < L.nt ∧ gI x 23 (3 * k) = nI p ∧ gI m 37 k = nI p ∧ gI x 23 (3 * k + 1) = nI q ∧ gI m 38 k = nI q ∧ gI x 23 (3 * k + 2) = nI t ∧ gI m 39 k = nI t
theorem K.loans {x' m' : St} (h : K ld bk L x m) (hx : ∀ o k, o ≠ 22 → o ≠ 23 → ¬ (o = 21 ∧ k = 4) → gI x' o k = gI x o k) (hr : ∀ o k, gR x' o k = gR x o k) (hl : ∀ o k, gL x' o k = gL x o k) (hm : ∀ o k, o ≠ 37 → o ≠ 38 → o ≠ 39 → ¬ (o = 0 ∧ k = 56) → gI m' o k = gI m o k) (hl' : ∀ o k, gL m' o k = gL m o k) (d7 : D7 L x' m') : K ld bk L x' m' := by
  have dx : DyX x x' := ⟨fun o k e => hx o k (fun q => by rw [q] at e; cases e) (fun q => by rw [q] at e; cases e) (fun q => by rw [q.1, q.2] at e; cases e), fun o k _ => hr o k, hl _ _⟩
  have dm : DyM m m' := ⟨fun o k e => hm o k (fun q => by rw [q] at e; simp [dM] at e) (fun q => by rw [q] at e; simp [dM] at e) (fun q => by rw [q] at e; simp [dM] at e) (fun q => by rw [q.1, q.2] at e; cases e), fun o k _ => hl' o k⟩
  obtain ⟨d1, d2, d3, d4, d5, d6, -, d8, d9⟩ := h.2.2.2.2.2
  refine h.dy dx dm ⟨?_, ?_, ?_, fun p hp => ?_, fun i hi => ?_, fun p t hp ht => ?_, d7, ?_, ?_⟩
  · rw [hx _ _ (by decide) (by decide) (by decide), hm _ _ (by decide) (by decide) (by decide) (by decide)]; exact d1
  · rw [hx _ _ (by decide) (by decide) (by decide), hm _ _ (by decide) (by decide) (by decide) (by decide)]; exact d2
  · rw [hx 6 3 (by decide) (by decide) (by decide), hm 0 60 (by decide) (by decide) (by decide) (by decide)]
    obtain ⟨c, hc, e1, e2, e3⟩ := d3
    exact ⟨c, hc, e1, e2, fun i hi => by rw [hx 9 _ (by decide) (by decide) (by omega), hm 40 _ (by decide) (by decide) (by decide) (by omega)]; exact e3 i hi⟩
  · rw [hx _ _ (by decide) (by decide) (by omega), hm _ _ (by decide) (by decide) (by decide) (by omega)]; exact d4 p hp
  · rw [hx _ _ (by decide) (by decide) (by omega), hm _ _ (by decide) (by decide) (by decide) (by omega)]; exact d5 i hi
  · rw [hx _ _ (by decide) (by decide) (by omega), hm _ _ (by decide) (by decide) (by decide) (by omega)]; exact d6 p t hp ht
  · exact d8.c (hx _ _ (by decide) (by decide) (by decide)) (hx _ _ (by decide) (by decide) (by decide)) (hm _ _ (by decide) (by decide) (by decide) (by decide)) (fun k => hx _ _ (by decide) (by decide) (by omega)) (fun k => hm _ _ (by decide) (by decide) (by decide) (by omega))
  · exact d9.c (hx _ _ (by decide) (by decide) (by decide)) (hx _ _ (by decide) (by decide) (by decide)) (hm _ _ (by decide) (by decide) (by decide) (by decide)) (fun k => hx _ _ (by decide) (by decide) (by omega)) (fun k => hm _ _ (by decide) (by decide) (by decide) (by omega))
theorem step15 : Step_15 RelF := by
  intro a b c x m h
  obtain ⟨ld, bk, L, k0, rc⟩ := h.op
  obtain ⟨-, hs, hb, hl, hw, hd⟩ := id k0
  have h8 := hl.1.1
  have h12 := hl.2.1.1
  have l16 := land16 hs.2.1
  have rf : ∀ m1, f_X11_refuses 3 m1 = some (-1, sI m1 32 3 (gI m1 32 3 + 1)) := fun m1 => rf_M (k := 3) (by omega) m1
  have X := e_X1_lendTitle a b c x
  have M := e_X11_lend a b c m
  rw [isP_M hb hl] at M
  simp only [rf, Option.bind] at M
  have bad : ∀ x1 m1, RelF x1 m1 → f_X1_lendTitle a b c x = some (-1, x1) → f_X11_lend a b c m = some (-1, sI m1 32 3 (gI m1 32 3 + 1)) → ∃ r σx' σm', f_X10_lend a b c x = some (r, σx') ∧ f_X11_lend a b c m = some (r, σm') ∧ RelF σx' σm' := by
    intro x1 m1 r1 q1 q2
    refine ⟨-1, sI x1 2 3 (gI x1 2 3 + 1), _, ?_, q2, refuseF r1 (by omega)⟩
    rw [e_X10_lend, q1]
    dsimp only [Option.bind]
    rw [show (3 : Int32) = nI 3 from rfl, cnt_X (by omega)]
  obtain ⟨n, hn, n1, n2, n3⟩ := hd.2.2.2.2.2.2.1
  have lim20 : gI x 21 0 = nI 20 := (hs.2.2.2.2.1 21 (by simp [isRoll])).1
  have lim3 : gI x 21 1 = nI 3 := (hs.2.2.2.2.1 21 (by simp [isRoll])).2
  rw [e_X8_isFull, n1, lim20] at X
  have Xno : (inb a L.np = false ∨ inb c L.nt = false) → f_X1_lendTitle a b c x = some (-1, x) := by
    intro q
    by_cases cf : n < 20
    · rw [if_pos (nI_lt cf (by omega))] at X
      dsimp only [Option.bind] at X
      rw [if_pos rfl, bears_no hs hl q] at X
      exact X
    · rw [if_neg (nI_nlt (by omega) (by omega))] at X
      exact X
  cases hp : inb a L.np
  · rw [hp, if_pos (by decide)] at M
    exact bad x m h (Xno (Or.inl hp)) M
  rw [hp, if_neg (by decide), isP_M hb hl] at M
  dsimp only at M
  cases hq : inb b L.np
  · rw [hq, if_pos (by decide)] at M
    refine bad x m h ?_ M
    by_cases cf : n < 20
    · rw [if_pos (nI_lt cf (by omega))] at X
      dsimp only [Option.bind] at X
      rw [if_pos rfl] at X
      cases ht : inb c L.nt
      · rw [bears_no hs hl (Or.inr ht)] at X
        exact X
      · obtain ⟨p, hp', rfl⟩ := inb_of hp (by omega)
        obtain ⟨t, ht', rfl⟩ := inb_of ht (by omega)
        rw [bears_X hs hl hd hp' ht'] at X
        dsimp only at X
        cases hh : hasT x p t
        · rw [hh, if_pos (by decide)] at X
          exact X
        · rw [hh, if_neg (by decide), lacks_no hs hl (Or.inl hq)] at X
          dsimp only at X
          rw [if_pos rfl] at X
          exact X
    · rw [if_neg (nI_nlt (by omega) (by omega))] at X
      exact X
  rw [hq, if_neg (by decide), isT_M hb hl] at M
  dsimp only at M
  cases ht : inb c L.nt
  · rw [ht, if_pos (by decide)] at M
    exact bad x m h (Xno (Or.inr ht)) M
  rw [ht, if_neg (by decide)] at M
  obtain ⟨p, hp', rfl⟩ := inb_of hp (by omega)
  obtain ⟨q, hq', rfl⟩ := inb_of hq (by omega)
  obtain ⟨t, ht', rfl⟩ := inb_of ht (by omega)
  rw [n2] at M
  by_cases cf : n < 20
  · rw [if_pos (nI_lt cf (by omega))] at X
    dsimp only [Option.bind] at X
    rw [if_pos rfl, bears_X hs hl hd hp' ht'] at X
    rw [if_neg (show ¬ nI n = (20 : Int32) from fun w => by have := (nI_eq (b := 20) (by omega) (by omega)).mp w; omega), hasT_M hl hd (by omega) (by omega)] at M
    dsimp only at X M
    cases hh : hasT x p t
    · rw [hh, if_pos (by decide)] at X M
      exact bad x m h X M
    rw [hh, if_neg (by decide)] at X M
    rw [lacks_X hs hl hd hq' ht'] at X
    rw [hasT_M hl hd (by omega) (by omega)] at M
    dsimp only at X M
    cases hh2 : hasT x q t
    · rw [hh2, if_neg (by decide)] at X
      rw [hh2, if_pos (by decide)] at M
      have hpq : p ≠ q := fun w => by rw [w, hh2] at hh; cases hh
      dsimp only [ltt] at X
      obtain ⟨o1, o2, o3⟩ := ozT_nw hl ht'
      obtain ⟨ln1, ln2⟩ := load_N hl hd (p := q) (by omega)
      obtain ⟨k, σ1, τ1, k1, q1, q2, e1, e2⟩ := limB hs hb hl hd hw hq'
      rw [hs.1, if_pos (landB_of hs.2.1), e_X4_titleOunces, getT1 hs hl ht', o1] at X
      dsimp only [Option.bind] at X
      rw [load_X hs hl hd (by omega), ln1] at X
      dsimp only at X
      rw [e1] at X
      dsimp only at X
      rw [load_M hb hl hd (by omega), ln1] at M
      dsimp only at M
      rw [ozT_M hb hl ht', o1] at M
      dsimp only at M
      rw [e2] at M
      dsimp only at M
      by_cases cl : nI (loadN x ld L q) + nI (nw (ozN x ld) (L.tn t)) ≤ nI k
      · rw [if_pos cl] at X M
        have ks := k0.sc q1 q2
        have hhs : hasT σ1 p t = true := by rw [hasT, q1.1 7 p rfl]; exact hh
        have hhs2 : hasT σ1 q t = false := by rw [hasT, q1.1 7 q rfl]; exact hh2
        obtain ⟨x1, m1, f1, f2, kk1, cn, c7, tw, fx, fm⟩ := goB ks hp' ht' hhs
        have hh1 : hasT x1 q t = false := by rw [hasT, c7 q (fun w => hpq w.symm)]; exact hhs2
        obtain ⟨x2, m2, f3, f4, kk2, -, c72, tw2, fx2, fm2⟩ := comeB kk1 hq' ht' hh1
        rw [f1] at X
        rw [f2] at M
        dsimp only at X M
        rw [f3] at X
        rw [f4] at M
        dsimp only at X M
        have xf : ∀ o k, o ≠ 7 → o ≠ 10 → o ≠ 13 → o ≠ 14 → gI x2 o k = gI σ1 o k := fun o k h1 h2 h3 h4 => by rw [fx2 o k h1 h2, fx o k h1 h4 (fun w => h3 w.1)]
        have mf : ∀ o k, o ≠ 35 → o ≠ 43 → o ≠ 42 → ¬ (o = 0 ∧ k = 64) → gI m2 o k = gI τ1 o k := fun o k h1 h2 h3 h4 => by rw [fm2 o k h1 h2, fm o k h1 h3 h4]
        have g21 : ∀ k, gI x2 21 k = gI x 21 k := fun k => by rw [xf 21 k (by decide) (by decide) (by decide) (by decide), q1.1 21 k rfl]
        have g23 : ∀ k, gI x2 23 k = gI x 23 k := fun k => by rw [xf 23 k (by decide) (by decide) (by decide) (by decide), q1.1 23 k rfl]
        have m56 : gI m2 0 56 = nI n := by rw [mf 0 56 (by decide) (by decide) (by decide) (by decide), q2.1 0 56 rfl]; exact n2
        have m37 : ∀ k, gI m2 37 k = gI m 37 k := fun k => by rw [mf 37 k (by decide) (by decide) (by decide) (by omega), q2.1 37 k rfl]
        have m38 : ∀ k, gI m2 38 k = gI m 38 k := fun k => by rw [mf 38 k (by decide) (by decide) (by decide) (by omega), q2.1 38 k rfl]
        have m39 : ∀ k, gI m2 39 k = gI m 39 k := fun k => by rw [mf 39 k (by decide) (by decide) (by decide) (by omega), q2.1 39 k rfl]
        -- the new row, here
        let A := sI (sI x2 22 n 0) 21 4 (nI (n + 1))
        let A1 := sI A 23 (3 * n) (nI p)
        let A2 := sI A1 23 (3 * n + 1) (nI q)
        let A3 := sI A2 23 (3 * n + 2) (nI t)
        have ad : f_X8_add 21 0 x2 = some (nI n, A) := by
          rw [e_X8_add, e_X8_isFull, g21, g21, n1, lim20, if_pos (nI_lt cf (by omega))]
          dsimp only [Option.bind]
          rw [if_pos rfl, g21, n1, show lnX (21 + 1) = 20 from rfl, if_pos (inb_nI cf (by omega)), ix_nI (by omega)]
          dsimp only [ltt]
          have v : gI (sI x2 22 n 0) 21 4 = nI n := by rw [gI_sI, if_neg (by omega), g21]; exact n1
          rw [v, nI_1]
          have v2 : gI (sI (sI x2 22 n 0) 21 4 (nI (n + 1))) 21 4 = nI (n + 1) := by rw [gI_sI, if_pos ⟨rfl, rfl⟩]
          rw [v2, nI_pred]
        have pt : ∀ (σ : St) (j : Nat) (u : Int32), gI σ 21 4 = nI (n + 1) → gI σ 21 1 = nI 3 → j < 3 → f_X8_put 21 (nI n) (nI j) u σ = some ((), sI σ 23 (3 * n + j) u) := by
          intro σ j u h1 h2 hj
          rw [e_X8_put, holds_X h1 (by omega), inb_nI (show n < n + 1 by omega) (by omega)]
          dsimp only [Option.bind]
          rw [if_neg (by decide), if_neg (nI_pos (by omega)), h2, if_neg (nI_ge hj (by omega)), pk_mul, nI_add, show lnX (21 + 2) = 60 from rfl, if_pos (inb_nI (by omega) (by omega)), ix_nI (by omega), Nat.mul_comm n 3]
          rfl
        have a4 : gI A 21 4 = nI (n + 1) := by show gI (sI (sI x2 22 n 0) 21 4 (nI (n + 1))) 21 4 = _; rw [gI_sI, if_pos ⟨rfl, rfl⟩]
        have a1 : gI A 21 1 = nI 3 := by show gI (sI (sI x2 22 n 0) 21 4 (nI (n + 1))) 21 1 = _; rw [gI_sI, if_neg (by decide), gI_sI, if_neg (by omega), g21]; exact lim3
        have p0 : f_X8_put 21 (nI n) 0 (nI p) A = some ((), A1) := pt A 0 _ a4 a1 (by omega)
        have p1 : f_X8_put 21 (nI n) 1 (nI q) A1 = some ((), A2) := pt A1 1 _ (by show gI (sI A 23 (3 * n) (nI p)) 21 4 = _; rw [gI_sI, if_neg (by omega)]; exact a4) (by show gI (sI A 23 (3 * n) (nI p)) 21 1 = _; rw [gI_sI, if_neg (by omega)]; exact a1) (by omega)
        have p2 : f_X8_put 21 (nI n) 2 (nI t) A2 = some ((), A3) := pt A2 2 _ (by show gI (sI (sI A 23 (3 * n) (nI p)) 23 (3 * n + 1) (nI q)) 21 4 = _; rw [gI_sI, if_neg (by omega), gI_sI, if_neg (by omega)]; exact a4) (by show gI (sI (sI A 23 (3 * n) (nI p)) 23 (3 * n + 1) (nI q)) 21 1 = _; rw [gI_sI, if_neg (by omega), gI_sI, if_neg (by omega)]; exact a1) (by omega)
        have A3d : A3 = sI (sI (sI (sI (sI x2 22 n 0) 21 4 (nI (n + 1))) 23 (3 * n) (nI p)) 23 (3 * n + 1) (nI q)) 23 (3 * n + 2) (nI t) := rfl
        have A3f : ∀ o k, o ≠ 22 → o ≠ 23 → ¬ (o = 21 ∧ k = 4) → gI A3 o k = gI x2 o k := fun o k h1 h2 h3 => by
          rw [A3d, gI_sI, if_neg (fun w => h2 w.1), gI_sI, if_neg (fun w => h2 w.1), gI_sI, if_neg (fun w => h2 w.1), gI_sI, if_neg h3, gI_sI, if_neg (fun w => h1 w.1)]
        -- and there
        let B := sI (sI (sI (sI m2 37 n (nI p)) 38 n (nI q)) 39 n (nI t)) 0 56 (nI (n + 1))
        have Bf : ∀ o k, o ≠ 37 → o ≠ 38 → o ≠ 39 → ¬ (o = 0 ∧ k = 56) → gI B o k = gI m2 o k := fun o k h1 h2 h3 h4 => by
          show gI (sI (sI (sI (sI m2 37 n (nI p)) 38 n (nI q)) 39 n (nI t)) 0 56 (nI (n + 1))) o k = _
          rw [gI_sI, if_neg h4, gI_sI, if_neg (fun w => h3 w.1), gI_sI, if_neg (fun w => h2 w.1), gI_sI, if_neg (fun w => h1 w.1)]
        have d7 : D7 L A3 B := by
          refine ⟨n + 1, by omega, ?_, ?_, fun j hj => ?_⟩
          · rw [A3d, gI_sI, if_neg (by omega), gI_sI, if_neg (by omega), gI_sI, if_neg (by omega)]; exact a4
          · show gI (sI (sI (sI (sI m2 37 n (nI p)) 38 n (nI q)) 39 n (nI t)) 0 56 (nI (n + 1))) 0 56 = _
            rw [gI_sI, if_pos ⟨rfl, rfl⟩]
          · by_cases e : j = n
            · subst e
              refine ⟨p, q, t, hp', hq', ht', ?_, ?_, ?_, ?_, ?_, ?_⟩
              · rw [A3d, gI_sI, if_neg (by omega), gI_sI, if_neg (by omega), gI_sI, if_pos ⟨rfl, rfl⟩]
              · show gI (sI (sI (sI (sI m2 37 j (nI p)) 38 j (nI q)) 39 j (nI t)) 0 56 (nI (j + 1))) 37 j = _
                rw [gI_sI, if_neg (by omega), gI_sI, if_neg (by omega), gI_sI, if_neg (by omega), gI_sI, if_pos ⟨rfl, rfl⟩]
              · rw [A3d, gI_sI, if_neg (by omega), gI_sI, if_pos ⟨rfl, rfl⟩]
              · show gI (sI (sI (sI (sI m2 37 j (nI p)) 38 j (nI q)) 39 j (nI t)) 0 56 (nI (j + 1))) 38 j = _
                rw [gI_sI, if_neg (by omega), gI_sI, if_neg (by omega), gI_sI, if_pos ⟨rfl, rfl⟩]
              · rw [A3d, gI_sI, if_pos ⟨rfl, rfl⟩]
              · show gI (sI (sI (sI (sI m2 37 j (nI p)) 38 j (nI q)) 39 j (nI t)) 0 56 (nI (j + 1))) 39 j = _
                rw [gI_sI, if_neg (by omega), gI_sI, if_pos ⟨rfl, rfl⟩]
            · obtain ⟨p', q', t', u1, u2, u3, u4, u5, u6, u7, u8, u9⟩ := n3 j (by omega)
              refine ⟨p', q', t', u1, u2, u3, ?_, ?_, ?_, ?_, ?_, ?_⟩
              · rw [A3d, gI_sI, if_neg (by omega), gI_sI, if_neg (by omega), gI_sI, if_neg (by omega), gI_sI, if_neg (by omega), gI_sI, if_neg (by omega), g23]; exact u4
              · show gI (sI (sI (sI (sI m2 37 n (nI p)) 38 n (nI q)) 39 n (nI t)) 0 56 (nI (n + 1))) 37 j = _
                rw [gI_sI, if_neg (by omega), gI_sI, if_neg (by omega), gI_sI, if_neg (by omega), gI_sI, if_neg (by omega), m37]; exact u5
              · rw [A3d, gI_sI, if_neg (by omega), gI_sI, if_neg (by omega), gI_sI, if_neg (by omega), gI_sI, if_neg (by omega), gI_sI, if_neg (by omega), g23]; exact u6
              · show gI (sI (sI (sI (sI m2 37 n (nI p)) 38 n (nI q)) 39 n (nI t)) 0 56 (nI (n + 1))) 38 j = _
                rw [gI_sI, if_neg (by omega), gI_sI, if_neg (by omega), gI_sI, if_neg (by omega), gI_sI, if_neg (by omega), m38]; exact u7
              · rw [A3d, gI_sI, if_neg (by omega), gI_sI, if_neg (by omega), gI_sI, if_neg (by omega), gI_sI, if_neg (by omega), gI_sI, if_neg (by omega), g23]; exact u8
              · show gI (sI (sI (sI (sI m2 37 n (nI p)) 38 n (nI q)) 39 n (nI t)) 0 56 (nI (n + 1))) 39 j = _
                rw [gI_sI, if_neg (by omega), gI_sI, if_neg (by omega), gI_sI, if_neg (by omega), gI_sI, if_neg (by omega), m39]; exact u9
        have kk3 : K ld bk L A3 B := kk2.loans A3f (fun _ _ => rfl) (fun _ _ => rfl) Bf (fun _ _ => rfl) d7
        obtain ⟨-, hs3, hb3, hl3, hw3, hd3⟩ := id kk3
        obtain ⟨x4, m4, f5, f6, kk4, fx4, fm4⟩ := noteB kk3 4 (nI p) (nI q) (nI (nw (ozN x ld) (L.tn t)))
        rw [ad] at X
        dsimp only at X
        rw [p0] at X
        dsimp only at X
        rw [p1] at X
        dsimp only at X
        rw [p2] at X
        dsimp only at X
        rw [f5] at X
        dsimp only at X
        have g4 : gI x4 21 4 = nI (n + 1) := by
          rw [fx4 21 4 (by decide) (by decide), A3d, gI_sI, if_neg (by omega), gI_sI, if_neg (by omega), gI_sI, if_neg (by omega)]; exact a4
        rw [g4] at X
        have fr : ∀ o k, o ≠ 7 → o ≠ 10 → o ≠ 13 → o ≠ 14 → o ≠ 19 → o ≠ 20 → o ≠ 21 → o ≠ 22 → o ≠ 23 → gI x4 o k = gI σ1 o k := fun o k h1 h2 h3 h4 h5 h6 h7 h8 h9 => by
          rw [fx4 o k h6 (fun w => h5 w.1), A3f o k h8 h9 (fun w => h7 w.1), xf o k h1 h2 h3 h4]
        have ozA : ozN A3 ld = ozN x ld := funext fun k => by
          rw [ozN, A3f _ k (by omega) (by omega) (by omega), xf _ k (by omega) (by omega) (by omega) (by omega), q1.1 _ k (by rcases l16 with e | e <;> rw [e] <;> rfl)]
          rfl
        have ot3 : f_X11_ouncesOf (nI t) B = some (nI (nw (ozN x ld) (L.tn t)), B) := by rw [ozT_M hb3 hl3 ht', (ozT_nw hl3 ht').1, ozA]
        have v1 : gI (sI m2 37 n (nI p)) 0 56 = nI n := by rw [gI_sI, if_neg (by omega)]; exact m56
        have v2 : gI (sI (sI m2 37 n (nI p)) 38 n (nI q)) 0 56 = nI n := by rw [gI_sI, if_neg (by omega)]; exact v1
        have v3 : gI (sI (sI (sI m2 37 n (nI p)) 38 n (nI q)) 39 n (nI t)) 0 56 = nI n := by rw [gI_sI, if_neg (by omega)]; exact v2
        rw [m56, if_pos (inb_nI cf (by omega)), ix_nI (by omega)] at M
        dsimp only [ltt] at M
        rw [v1, if_pos (inb_nI cf (by omega)), ix_nI (by omega), v2, if_pos (inb_nI cf (by omega)), ix_nI (by omega), v3, nI_1] at M
        have ot3' : f_X11_ouncesOf (nI t) (sI (sI (sI (sI m2 37 n (nI p)) 38 n (nI q)) 39 n (nI t)) 0 56 (nI (n + 1))) = some (nI (nw (ozN x ld) (L.tn t)), B) := ot3
        rw [ot3'] at M
        dsimp only at M
        rw [f6] at M
        dsimp only at M
        have g56 : gI m4 0 56 = nI (n + 1) := by
          rw [fm4 0 56 (by decide) (by decide)]
          show gI (sI (sI (sI (sI m2 37 n (nI p)) 38 n (nI q)) 39 n (nI t)) 0 56 (nI (n + 1))) 0 56 = _
          rw [gI_sI, if_pos ⟨rfl, rfl⟩]
        rw [g56] at M
        have rc1 : RCon ld L σ1 := (LWC_c ld bk L x m σ1 τ1 q1 q2 hs.2.1 hb.1 ⟨hw, rc⟩).2
        have s7 : ∀ k, gI x4 7 k = gI x2 7 k := fun k => by rw [fx4 7 k (by decide) (by omega), A3f 7 k (by decide) (by decide) (by omega)]
        have s8 : ∀ k, gI x4 8 k = gI x2 8 k := fun k => by rw [fx4 8 k (by decide) (by omega), A3f 8 k (by decide) (by decide) (by omega)]
        refine ⟨nI (n + 1), x4, m4, ?_, M, kk4.rel (rc1.t (fun r j h1 h2 h3 => ?_) (fun W => ?_) (fr 6 2 (by decide) (by decide) (by decide) (by decide) (by decide) (by decide) (by decide) (by decide) (by decide)) (fr 6 3 (by decide) (by decide) (by decide) (by decide) (by decide) (by decide) (by decide) (by decide) (by decide)) (fun k => fr 9 k (by decide) (by decide) (by decide) (by decide) (by decide) (by decide) (by decide) (by decide) (by decide)) (fun k => fr _ k (by omega) (by omega) (by omega) (by omega) (by omega) (by omega) (by omega) (by omega) (by omega)))⟩
        · rw [e_X10_lend, X]
          dsimp only [Option.bind]
          rw [cnt_ok (nI_ne1 (by omega))]
        · rw [loN, loN, s8, xf 8 _ (by decide) (by decide) (by decide) (by decide)]
        · rw [TW_c s7 s8, tw2, tw]
          exact Nat.le_refl _
      · rw [if_neg cl] at X M
        exact bad σ1 τ1 (scr LWC_c q1 q2 h) X M
    · rw [hh2, if_pos (by decide)] at X
      rw [hh2, if_neg (by decide)] at M
      exact bad x m h X M
  · rw [if_neg (nI_nlt (by omega) (by omega))] at X
    rw [if_pos (show nI n = (20 : Int32) by rw [show n = 20 by omega]; rfl)] at M
    exact bad x m h X M
end Lend
