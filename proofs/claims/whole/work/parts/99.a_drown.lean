/-! ===== drown ===== -/
section Drown
variable {ld bk : Nat} {L : LD} {x m : St}
theorem i_neg (a : Int32) : a + -a = 0 := by rw [← Int32.sub_eq_add_neg, Int32.sub_self]
theorem wN_nw (hl : RLa ld bk L x m) {t : Nat} (ht : t < L.nt) : wN x ld t = nw (ozN x ld) (L.tn t) := by
  obtain ⟨e1, e2, e3⟩ := ozT_nw hl ht
  rw [wN, e1, nI_clamp (by omega)]
theorem bsum_cg {B C : Nat → Nat} {n : Nat} (h : ∀ t, t < n → B t = C t) (c : Nat) : bsum B n c = bsum C n c := by
  induction n with
  | zero => rfl
  | succ n ih => rw [bsum, bsum, ih (fun t ht => h t (by omega)), h n (by omega)]
theorem loo_s (h : K ld bk L x m) {p : Nat} (hp : p ≤ 8) : looS x ld p = nI (lsum (ozN x ld) (fun k => loN x (26 * p + k)) 26) := by
  have hl := h.2.2.2.1
  have := itr_inv (g := fun (a : Int32) k => a + gI x 8 (26 * p + k) * gI x (ld + 16) k) (P := fun i a => a = nI (lsum (ozN x ld) (fun k => loN x (26 * p + k)) i)) (N := 26) (fun a i hi e => by
    rw [e, (lo_e h (i := 26 * p + i) (by omega)).1, (oz_e hl hi).1, pk_mul, nI_add, lsum, Nat.mod_eq_of_lt hi, Nat.mul_comm (ozN x ld i)]) 26 0 0 (by omega) rfl
  exact this
theorem load_tw (h : K ld bk L x m) {p : Nat} (hp : p < 8) : loadN x ld L p = bsum (fun t => nw (ozN x ld) (L.tn t)) L.nt (coatN x p) + lsum (ozN x ld) (fun k => loN x (26 * p + k)) 26 := by
  obtain ⟨-, hs, hb, hl, hw, hd⟩ := id h
  obtain ⟨n1, n2⟩ := load_N hl hd hp
  have e : loadS x ld L p = nI (bsum (fun t => nw (ozN x ld) (L.tn t)) L.nt (coatN x p) + lsum (ozN x ld) (fun k => loN x (26 * p + k)) 26) := by
    rw [loadS, oz_s hl, loo_s h (by omega), nI_add, bsum_cg (fun t ht => wN_nw hl ht)]
  have b1 : bsum (fun t => nw (ozN x ld) (L.tn t)) L.nt (coatN x p) ≤ 7128 := by rw [← bsum_cg (fun t ht => wN_nw hl ht)]; exact ozb hl _
  obtain ⟨q, hq, eq⟩ := looS_b hl hd (r := p) (by omega)
  rw [loo_s h (by omega)] at eq
  have b2 : lsum (ozN x ld) (fun k => loN x (26 * p + k)) 26 ≤ 25737426 := by
    have key : ∀ i, i ≤ 26 → lsum (ozN x ld) (fun k => loN x (26 * p + k)) i ≤ 989901 * i := by
      intro i
      induction i with
      | zero => intro _; exact Nat.zero_le _
      | succ i ih =>
        intro hi
        have := ih (by omega)
        have h1 := (oz_e hl (k := i) (by omega)).2.2
        have h2 := (lo_e h (i := 26 * p + i) (by omega)).2.2
        have h3 : ozN x ld i * loN x (26 * p + i) ≤ 99 * 9999 := Nat.mul_le_mul h1 h2
        rw [lsum, Nat.mod_eq_of_lt (by omega)]
        omega
    exact key 26 (Nat.le_refl _)
  rw [loadN, e, nI_clamp (by omega)]
/-- all titles go -/
theorem allGo {p : Nat} (hp : p < L.np) (v : Int32) : ∀ d i n n' (x m : St), K ld bk L x m → i + d = L.nt → d < n → d < n' → (∀ j, j < i → (coatN x p).testBit j = false) → ∃ x' m', f_X1_sinkCoat_24 n (nI p) v (nI i) x = f_X1_sinkCoat_58 FU (nI p) v 0 x' ∧ f_X11_drown_22 n' (nI p) v (nI i) m = f_X11_drown_58 FU (nI p) v 0 m' ∧ K ld bk L x' m' ∧ coatN x' p = 0 ∧ (∀ k, k ≠ p → gI x' 7 k = gI x 7 k) ∧ ∀ o k, o ≠ 7 → o ≠ 13 → o ≠ 14 → gI x' o k = gI x o k := by
  intro d
  induction d with
  | zero =>
    intro i n n' x m h hi hn hn' hz
    obtain ⟨n, rfl⟩ : ∃ k, n = k + 1 := ⟨n - 1, by omega⟩
    obtain ⟨n', rfl⟩ : ∃ k, n' = k + 1 := ⟨n' - 1, by omega⟩
    obtain ⟨-, hs, hb, hl, hw, hd⟩ := id h
    have h8 := hl.1.1
    have h12 := hl.2.1.1
    refine ⟨x, m, ?_, ?_, h, ?_, fun _ _ => rfl, fun _ _ _ _ _ => rfl⟩
    · rw [e_X1_sinkCoat_24]
      dsimp only [ltt]
      rw [hs.1, if_pos (landB_of hs.2.1), hl.2.1.2.1, if_pos (nI_le (by omega) (by omega))]
    · rw [e_X11_drown_22, hb.2, (bk_ix hb.1).1, if_pos rfl, (bk_ix hb.1).2, hl.2.1.2.2, if_pos (nI_le (by omega) (by omega))]
    · exact tb0 (coat_cN hl hd (p := p) (by omega)).1 (fun j hj => hz j (by omega))
  | succ d ih =>
    intro i n n' x m h hi hn hn' hz
    obtain ⟨n, rfl⟩ : ∃ k, n = k + 1 := ⟨n - 1, by omega⟩
    obtain ⟨n', rfl⟩ : ∃ k, n' = k + 1 := ⟨n' - 1, by omega⟩
    obtain ⟨-, hs, hb, hl, hw, hd⟩ := id h
    have h8 := hl.1.1
    have h12 := hl.2.1.1
    have hit : i < L.nt := by omega
    have X := e_X1_sinkCoat_24 n (nI p) v (nI i) x
    have M := e_X11_drown_22 n' (nI p) v (nI i) m
    dsimp only [ltt] at X
    rw [hs.1, if_pos (landB_of hs.2.1), hl.2.1.2.1, if_neg (nI_ge hit (by omega)), nI_1] at X
    rw [hb.2, (bk_ix hb.1).1, if_pos rfl, (bk_ix hb.1).2, hl.2.1.2.2, if_neg (nI_ge hit (by omega)), hasT_M hl hd (by omega) (by omega), nI_1] at M
    dsimp only [Option.bind] at M
    cases hh : hasT x p i
    · rw [hh, if_pos (by decide)] at M
      rw [e_X2_go, bears_X hs hl hd hp hit, hh] at X
      dsimp only [Option.bind] at X
      rw [if_pos (by decide)] at X
      dsimp only at X
      rw [X, M]
      exact ih (i + 1) n n' x m h (by omega) (by omega) (by omega) (fun j hj => by
        by_cases e : j = i
        · rw [e]; exact hh
        · exact hz j (by omega))
    · rw [hh, if_neg (by decide)] at M
      obtain ⟨x1, m1, e1, e2, k1, cn, c7, tw, fx, fm⟩ := goB h hp hit hh
      rw [e1] at X
      rw [e2] at M
      dsimp only [Option.bind] at X M
      rw [X, M]
      have hsub : 2 ^ i &&& coatN x p = 2 ^ i := sub_of (fun q e => by
        rw [Nat.testBit_two_pow, decide_eq_true_iff] at e
        rw [← e]; exact hh)
      obtain ⟨x2, m2, f1, f2, k2, z2, s2, fr2⟩ := ih (i + 1) n n' x1 m1 k1 (by omega) (by omega) (by omega) (fun j hj => by
        rw [cn, rest_t hsub]
        by_cases e : j = i
        · rw [e, Nat.testBit_two_pow_self, Bool.not_true, Bool.and_false]
        · rw [hz j (by omega), Bool.false_and])
      exact ⟨x2, m2, f1, f2, k2, z2, fun k hk => (s2 k hk).trans (c7 k hk), fun o k o1 o2 o3 => (fr2 o k o1 o2 o3).trans (fx o k o1 o3 (fun w => o2 w.1))⟩
theorem step18 : Step_18 RelF := by
  intro a x m h
  obtain ⟨ld, bk, L, k0, rc⟩ := h.op
  obtain ⟨-, hs, hb, hl, hw, hd⟩ := id k0
  have h8 := hl.1.1
  have h12 := hl.2.1.1
  have l16 := land16 hs.2.1
  have rf : ∀ m1, f_X11_refuses 3 m1 = some (-1, sI m1 32 3 (gI m1 32 3 + 1)) := fun m1 => rf_M (k := 3) (by omega) m1
  have X := e_X1_sinkCoat a x
  have M := e_X11_drown a m
  rw [isP_X hs hl] at X
  rw [isP_M hb hl] at M
  dsimp only [Option.bind] at X M
  cases hp : inb a L.np
  · rw [hp, if_pos (by decide)] at X M
    rw [rf] at M
    refine ⟨-1, sI x 2 3 (gI x 2 3 + 1), _, ?_, M, refuseF h (by omega)⟩
    rw [e_X10_drown, X]
    dsimp only [Option.bind]
    rw [show (3 : Int32) = nI 3 from rfl, cnt_X (by omega)]
  rw [hp, if_neg (by decide)] at X M
  obtain ⟨p, hp', rfl⟩ := inb_of hp (by omega)
  obtain ⟨n1, n2⟩ := load_N hl hd (p := p) (by omega)
  have ltw := load_tw k0 (p := p) (by omega)
  rw [load_X hs hl hd (by omega), n1] at X
  rw [load_M hb hl hd (by omega), n1] at M
  dsimp only at X M
  obtain ⟨x1, m1, e1, e2, k1, z1, s1, fr1⟩ := allGo hp' (nI (loadN x ld L p)) L.nt 0 FU FU x m k0 (by omega) (by rw [FU_eq]; omega) (by rw [FU_eq]; omega) (fun j hj => by omega)
  have e1' : f_X1_sinkCoat_24 FU (nI p) (nI (loadN x ld L p)) 0 x = _ := e1
  have e2' : f_X11_drown_22 FU (nI p) (nI (loadN x ld L p)) 0 m = _ := e2
  rw [e1'] at X
  rw [e2'] at M
  have lo1 : ∀ j, loN x1 j = loN x j := fun j => by rw [loN, loN, fr1 8 j (by decide) (by decide) (by decide)]
  have tw1 : ∀ W, TW W L x1 + bsum (fun t => nw W (L.tn t)) L.nt (coatN x p) = TW W L x := fun W => by
    have := TW_coat (W := W) (L := L) (x := x) (x' := x1) (p := p) (by omega) s1 (fun k => fr1 8 k (by decide) (by decide) (by decide))
    rw [z1] at this
    have zz : bsum (fun t => nw W (L.tn t)) L.nt 0 = 0 := by
      have : ∀ j, bsum (fun t => nw W (L.tn t)) j 0 = 0 := by
        intro j
        induction j with
        | zero => rfl
        | succ j ih => rw [bsum, ih, Nat.zero_testBit]; rfl
      exact this _
    omega
  -- the loose letters
  obtain ⟨x2, ⟨a1, a2, a3, a4, a5⟩, eX⟩ := loop_exF (fun n (σ : St) i => f_X1_sinkCoat_58 n (nI p) (nI (loadN x ld L p)) (nI i) σ) (fun σ => ltt (sI σ 6 2 ((gI σ 6 2) + nI (loadN x ld L p))) fun σ1 => (f_X1_note (6 : Int32) (nI p) (-1 : Int32) (nI (loadN x ld L p)) σ1).bind fun q2 => some (nI (loadN x ld L p), q2.2)) 26 (by omega) (fun i σ => (∀ o k, o ≠ 8 → gI σ o k = gI x1 o k) ∧ (∀ o k, gR σ o k = gR x1 o k) ∧ (∀ o k, gL σ o k = gL x1 o k) ∧ (∀ j, j < 234 → gI σ 8 j = nI (if j / 26 = p ∧ j % 26 < i then 0 else loN x j)) ∧ ∀ W, TW W L σ + lsum W (fun k => loN x (26 * p + k)) i = TW W L x1) (fun n σ hσ => by
    rw [e_X1_sinkCoat_58, if_pos (by decide)]) (fun n σ i hi hσ => by
    obtain ⟨b1, b2, b3, b4, b5⟩ := hσ
    have hj : 26 * p + i < 234 := by omega
    have hv := b4 _ hj
    rw [if_neg (by omega)] at hv
    have hsm := (lo_e k0 hj).2.2
    refine ⟨sI σ 8 (26 * p + i) 0, ?_, fun o k ho => by rw [gI_sI, if_neg (fun q => ho q.1)]; exact b1 o k ho, b2, b3, fun j hj' => ?_, fun W => ?_⟩
    · rw [e_X1_sinkCoat_58, if_neg (show ¬ (26 : Int32) ≤ nI i from nI_ge (b := 26) hi (by omega)), count_X (by omega) hi]
      dsimp only [Option.bind]
      rw [change_X (by omega) hi, i_neg, nI_1]
    · rw [gI_sI]
      by_cases e : j = 26 * p + i
      · rw [if_pos ⟨rfl, e⟩, if_pos (by omega)]; rfl
      · rw [if_neg (fun q => e q.2), b4 j hj']
        by_cases c : j / 26 = p ∧ j % 26 < i
        · rw [if_pos c, if_pos (by omega)]
        · rw [if_neg c, if_neg (by omega)]
    · have t1 := TW_lo (W := W) (L := L) (x := σ) (x' := sI σ 8 (26 * p + i) 0) hj (fun k => by rw [gI_sI, if_neg (by omega)]) (fun k hk => by rw [gI_sI, if_neg (fun q => hk q.2)])
      have v1 : loN σ (26 * p + i) = loN x (26 * p + i) := by rw [loN, hv, nI_clamp (by omega)]
      have v2 : loN (sI σ 8 (26 * p + i) 0) (26 * p + i) = 0 := by rw [loN, gI_sI, if_pos ⟨rfl, rfl⟩]; rfl
      rw [v1, v2, show (26 * p + i) % 26 = i by omega, Nat.mul_zero, Nat.add_zero] at t1
      rw [lsum, Nat.mod_eq_of_lt hi]
      have := b5 W
      omega) x1 ⟨fun _ _ _ => rfl, fun _ _ => rfl, fun _ _ => rfl, fun j hj => by rw [if_neg (by omega), fr1 8 j (by decide) (by decide) (by decide)]; exact (lo_e k0 hj).1, fun W => by rw [lsum, Nat.add_zero]⟩
  obtain ⟨m2, ⟨c1, c2, c3⟩, eM⟩ := loop_exF (fun n (σ : St) i => f_X11_drown_58 n (nI p) (nI (loadN x ld L p)) (nI i) σ) (fun σ => ltt (sI σ 0 55 ((gI σ 0 55) + nI (loadN x ld L p))) fun σ1 => (f_X11_notes (6 : Int32) (nI p) (-1 : Int32) (nI (loadN x ld L p)) σ1).bind fun q2 => some (nI (loadN x ld L p), q2.2)) 26 (by omega) (fun i σ => (∀ o k, o ≠ 36 → gI σ o k = gI m1 o k) ∧ (∀ o k, gL σ o k = gL m1 o k) ∧ ∀ j, j < 234 → gI σ 36 j = nI (if j / 26 = p ∧ j % 26 < i then 0 else loN x j)) (fun n σ hσ => by
    rw [e_X11_drown_58, if_pos (by decide)]) (fun n σ i hi hσ => by
    obtain ⟨b1, b2, b3⟩ := hσ
    refine ⟨sI σ 36 (26 * p + i) 0, ?_, fun o k ho => by rw [gI_sI, if_neg (fun q => ho q.1)]; exact b1 o k ho, b2, fun j hj' => ?_⟩
    · rw [e_X11_drown_58, if_neg (show ¬ (26 : Int32) ≤ nI i from nI_ge (b := 26) hi (by omega)), show (26 : Int32) = nI 26 from rfl, pk_mul, nI_add, if_pos (inb_nI (by omega) (by omega)), ix_nI (by omega), nI_1]
      rfl
    · rw [gI_sI]
      by_cases e : j = 26 * p + i
      · rw [if_pos ⟨rfl, e⟩, if_pos (by omega)]; rfl
      · rw [if_neg (fun q => e q.2), b3 j hj']
        by_cases c : j / 26 = p ∧ j % 26 < i
        · rw [if_pos c, if_pos (by omega)]
        · rw [if_neg c, if_neg (by omega)]) m1 ⟨fun _ _ _ => rfl, fun _ _ => rfl, fun j hj => by rw [if_neg (by omega), ← lo1]; exact (lo_e k1 hj).2.1⟩
  have k2 : K ld bk L x2 m2 := k1.lo a1 a2 a3 c1 c2 (fun j hj => by
    refine ⟨_, ?_, a4 j hj, c3 j hj⟩
    split
    · omega
    · exact (lo_e k0 hj).2.2)
  have eX' : f_X1_sinkCoat_58 FU (nI p) (nI (loadN x ld L p)) 0 x1 = _ := eX
  have eM' : f_X11_drown_58 FU (nI p) (nI (loadN x ld L p)) 0 m1 = _ := eM
  rw [eX'] at X
  rw [eM'] at M
  -- the river
  obtain ⟨r, hr, r1, r2⟩ := hd.2.1
  obtain ⟨y, hy, y1, y2⟩ := hd.1
  have rN : rivN x = r := by rw [rivN, r1, nI_clamp (by omega)]
  have g2 : gI x2 6 2 = nI r := by rw [a1 6 2 (by decide), fr1 6 2 (by decide) (by decide) (by decide)]; exact r1
  obtain ⟨r', hr', r1', r2'⟩ := k2.2.2.2.2.2.2.1
  have er : r' = r := (nI_eq (by omega) (by omega)).mp (by rw [← r1', g2])
  subst er
  obtain ⟨y', hy', y1', y2'⟩ := k2.2.2.2.2.2.1
  have twO := tw1 (ozN x ld)
  have twO2 := a5 (ozN x ld)
  have rc3 := rc.2.2
  have bound : r' + loadN x ld L p < 16777216 := by omega
  dsimp only [ltt] at X M
  rw [r1', nI_add] at X
  rw [r2', nI_add] at M
  have k3 : K ld bk L (sI x2 6 2 (nI (r' + loadN x ld L p))) (sI m2 0 55 (nI (r' + loadN x ld L p))) := k2.yr hy' bound (fun o k e => by rw [gI_sI, if_neg (fun q => e ⟨q.1, Or.inr q.2⟩)]) (fun _ _ => rfl) (fun _ _ => rfl) (fun o k e => by rw [gI_sI, if_neg (fun q => e ⟨q.1, Or.inr q.2⟩)]) (fun _ _ => rfl) (by rw [gI_sI, if_neg (by decide)]; exact y1') (by rw [gI_sI, if_neg (by decide)]; exact y2') (by rw [gI_sI, if_pos ⟨rfl, rfl⟩]) (by rw [gI_sI, if_pos ⟨rfl, rfl⟩])
  obtain ⟨x4, m4, f1, f2, k4, fx4, fm4⟩ := noteB k3 6 (nI p) (-1) (nI (loadN x ld L p))
  rw [f1] at X
  rw [f2] at M
  dsimp only [Option.bind] at X M
  have s7 : ∀ k, gI x4 7 k = gI x2 7 k := fun k => by rw [fx4 7 k (by decide) (by omega), gI_sI, if_neg (by omega)]
  have s8 : ∀ k, gI x4 8 k = gI x2 8 k := fun k => by rw [fx4 8 k (by decide) (by omega), gI_sI, if_neg (by omega)]
  have tw4 : ∀ W, TW W L x4 = TW W L x2 := fun W => TW_c s7 s8
  refine ⟨nI (loadN x ld L p), x4, m4, ?_, M, k4.rel ⟨fun q k h1 h2 h3 => ?_, ?_, ?_⟩⟩
  · rw [e_X10_drown, X]
    dsimp only [Option.bind]
    rw [cnt_ok (nI_ne1 (by omega))]
  · rw [loN, s8, a4 _ (by omega), if_neg (by omega), nI_clamp (by have := (lo_e k0 (i := 26 * q + k) (by omega)).2.2; omega)]
    exact rc.1 q k h1 h2 h3
  · have := tw1 (fun _ => 1)
    have := a5 (fun _ => 1)
    have := rc.2.1
    rw [tw4]; omega
  · have e1 : rivN x4 = r' + loadN x ld L p := by rw [rivN, fx4 6 2 (by decide) (by decide), gI_sI, if_pos ⟨rfl, rfl⟩, nI_clamp (by omega)]
    have fb : ∀ o k, o ≠ 6 → o ≠ 7 → o ≠ 8 → o ≠ 13 → o ≠ 14 → o ≠ 19 → o ≠ 20 → gI x4 o k = gI x o k := fun o k h1 h2 h3 h4 h5 h6 h7 => by rw [fx4 o k h7 (fun w => h6 w.1), gI_sI, if_neg (fun w => h1 w.1), a1 o k h3, fr1 o k h2 h4 h5]
    have e2 : bulN x4 = bulN x := by
      have h63 : gI x4 6 3 = gI x 6 3 := by rw [fx4 6 3 (by decide) (by decide), gI_sI, if_neg (by decide), a1 6 3 (by decide), fr1 6 3 (by decide) (by decide) (by decide)]
      unfold bulN
      rw [h63, show (fun i => (gI x4 9 i).toNatClampNeg) = (fun i => (gI x 9 i).toNatClampNeg) from funext fun i => by rw [fb 9 i (by decide) (by decide) (by decide) (by decide) (by decide) (by decide) (by decide)]]
    have e3 : ozN x4 ld = ozN x ld := funext fun k => by rw [ozN, ozN, fb _ k (by omega) (by omega) (by omega) (by omega) (by omega) (by omega) (by omega)]
    rw [e1, e2, e3, tw4]
    omega
end Drown
