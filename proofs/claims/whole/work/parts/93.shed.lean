/-! ===== letters laid loose; shed ===== -/
section Lay
variable {ld bk : Nat} {L : LD} {x m : St}
theorem nw_1 (l : List Nat) : nw (fun _ => 1) l = l.length := by
  induction l with
  | nil => rfl
  | cons c l ih => rw [nw, ih, List.length_cons]; omega
theorem cnt_s {l : List Nat} {i : Nat} (hi : i < l.length) (k : Nat) : (l.take (i + 1)).count k = (l.take i).count k + if k = l[i] then 1 else 0 := by
  rw [List.take_succ_eq_append_getElem hi, List.count_append, List.count_singleton]
  by_cases e : k = l[i]
  · rw [if_pos e, if_pos (by rw [e]; exact beq_self_eq_true _)]
  · rw [if_neg e, if_neg (fun q => e (eq_of_beq q).symm)]
theorem scatB (h : K ld bk L x m) {t r : Nat} (ht : t < L.nt) (hr : r ≤ 8) (hbd : ∀ k, k < 26 → loN x (26 * r + k) + (L.tn t).count k ≤ 9999) : ∃ x' m', f_X2_scatter (nI t) (nI r) x = some ((), x') ∧ f_X11_lays (nI t) (nI r) m = some ((), m') ∧ K ld bk L x' m' ∧ (∀ j, j < 234 → loN x' j = loN x j + if j / 26 = r then (L.tn t).count (j % 26) else 0) ∧ (∀ W, TW W L x' = TW W L x + nw W (L.tn t)) ∧ (∀ o k, o ≠ 8 → gI x' o k = gI x o k) ∧ ∀ o k, o ≠ 36 → gI m' o k = gI m o k := by
  obtain ⟨-, hs, hb, hl, hw, hd⟩ := id h
  obtain ⟨p1, p6, hc⟩ := nmT hl ht
  have small : ∀ (j i : Nat), j < 234 → loN x j + (if j / 26 = r then ((L.tn t).take i).count (j % 26) else 0) < 2 ^ 31 := by
    intro j i hj
    have := (lo_e h hj).2.2
    have q : ((L.tn t).take i).count (j % 26) ≤ 6 := Nat.le_trans List.count_le_length (by rw [List.length_take]; omega)
    split <;> omega
  -- here
  obtain ⟨x', ⟨a1, a2, a3, a4, a5⟩, eX⟩ := loop_exF (fun n (σ : St) i => f_X2_scatter_21 n (nI r) (nI (pk5 (L.tn t))) (nI (L.tn t).length) (nI i) σ) (fun σ => some ((), σ)) (L.tn t).length (by omega) (fun i σ => (∀ o k, o ≠ 8 → gI σ o k = gI x o k) ∧ (∀ o k, gR σ o k = gR x o k) ∧ (∀ o k, gL σ o k = gL x o k) ∧ (∀ j, j < 234 → gI σ 8 j = nI (loN x j + if j / 26 = r then ((L.tn t).take i).count (j % 26) else 0)) ∧ ∀ W, TW W L σ = TW W L x + nw W ((L.tn t).take i)) (fun n σ hσ => by
    rw [e_X2_scatter_21, if_pos (nI_le (Nat.le_refl _) (by omega))]) (fun n σ i hi hσ => by
    obtain ⟨b1, b2, b3, b4, b5⟩ := hσ
    have hl := hc _ (List.getElem_mem hi)
    have hj : 26 * r + (L.tn t)[i] < 234 := by omega
    have hdiv : (26 * r + (L.tn t)[i]) / 26 = r := by omega
    have hmod : (26 * r + (L.tn t)[i]) % 26 = (L.tn t)[i] := by omega
    have hv := b4 _ hj
    rw [if_pos hdiv, hmod] at hv
    have hsm := small _ i hj
    rw [if_pos hdiv, hmod] at hsm
    have hsm2 := small _ (i + 1) hj
    rw [if_pos hdiv, hmod, cnt_s hi, if_pos rfl] at hsm2
    refine ⟨sI σ 8 (26 * r + (L.tn t)[i]) (nI (loN x (26 * r + (L.tn t)[i]) + (((L.tn t).take i).count (L.tn t)[i] + 1))), ?_, fun o k ho => by rw [gI_sI, if_neg (fun q => ho q.1)]; exact b1 o k ho, b2, b3, fun j hj' => ?_, fun W => ?_⟩
    · rw [e_X2_scatter_21, if_neg (nI_ge hi (by omega)), letter_X hc p6, if_pos (inb_nI hi (by omega)), ix_nI (by omega), show (L.tn t).getD i 0 = (L.tn t)[i] by simp [List.getD, hi]]
      dsimp only [Option.bind]
      rw [change_X hr hl, hv, nI_1, nI_1]
      rfl
    · rw [gI_sI, cnt_s hi]
      by_cases e : j = 26 * r + (L.tn t)[i]
      · rw [if_pos ⟨rfl, e⟩, e, if_pos hdiv, hmod, if_pos rfl]
      · rw [if_neg (fun q => e q.2), b4 j hj']
        by_cases e2 : j / 26 = r
        · rw [if_pos e2, if_pos e2, if_neg (by omega), Nat.add_zero]
        · rw [if_neg e2, if_neg e2]
    · have t1 := TW_lo (W := W) (L := L) (x := σ) (x' := sI σ 8 (26 * r + (L.tn t)[i]) (nI (loN x (26 * r + (L.tn t)[i]) + (((L.tn t).take i).count (L.tn t)[i] + 1)))) hj (fun k => by rw [gI_sI, if_neg (by omega)]) (fun k hk => by rw [gI_sI, if_neg (fun q => hk q.2)])
      have l1 : loN σ (26 * r + (L.tn t)[i]) = loN x (26 * r + (L.tn t)[i]) + ((L.tn t).take i).count (L.tn t)[i] := by rw [loN, hv, nI_clamp hsm]
      have l2 : loN (sI σ 8 (26 * r + (L.tn t)[i]) (nI (loN x (26 * r + (L.tn t)[i]) + (((L.tn t).take i).count (L.tn t)[i] + 1)))) (26 * r + (L.tn t)[i]) = (loN x (26 * r + (L.tn t)[i]) + ((L.tn t).take i).count (L.tn t)[i]) + 1 := by rw [loN, gI_sI, if_pos ⟨rfl, rfl⟩, nI_clamp (by omega)]; omega
      rw [l1, l2, hmod, Nat.mul_add _ _ 1, Nat.mul_one, b5 W] at t1
      rw [List.take_succ_eq_append_getElem hi, nw_app, nw, nw]
      omega) x ⟨fun _ _ _ => rfl, fun _ _ => rfl, fun _ _ => rfl, fun j hj => by rw [List.take_zero, List.count_nil, ite_self, Nat.add_zero]; exact (lo_e h hj).1, fun W => by rw [List.take_zero, nw, Nat.add_zero]⟩
  rw [List.take_length] at a4 a5
  -- there
  obtain ⟨m', ⟨c1, c2, c3⟩, eM⟩ := loop_exF (fun n (σ : St) i => f_X11_lays_2 n (nI t) (nI r) (nI i) σ) (fun σ => some ((), σ)) 26 (by omega) (fun i σ => (∀ o k, o ≠ 36 → gI σ o k = gI m o k) ∧ (∀ o k, gL σ o k = gL m o k) ∧ ∀ j, j < 234 → gI σ 36 j = nI (loN x j + if j / 26 = r ∧ j % 26 < i then (L.tn t).count (j % 26) else 0)) (fun n σ hσ => by
    rw [e_X11_lays_2, if_pos (by decide)]) (fun n σ i hi hσ => by
    obtain ⟨b1, b2, b3⟩ := hσ
    obtain ⟨-, b', l', -⟩ := stat (DyX.rf x) (show DyM m σ from ⟨fun o k e => b1 o k (fun q => by rw [q] at e; cases e), fun o k _ => b2 o k⟩) hs hb hl hw
    have hj : 26 * r + i < 234 := by omega
    have hv := b3 _ hj
    rw [if_neg (by omega), Nat.add_zero] at hv
    refine ⟨sI σ 36 (26 * r + i) (nI (loN x (26 * r + i) + (L.tn t).count i)), ?_, fun o k ho => by rw [gI_sI, if_neg (fun q => ho q.1)]; exact b1 o k ho, b2, fun j hj' => ?_⟩
    · rw [e_X11_lays_2, if_neg (show ¬ (26 : Int32) ≤ nI i from nI_ge (b := 26) hi (by omega)), show (26 : Int32) = nI 26 from rfl, pk_mul, nI_add]
      dsimp only [ltt]
      rw [inb_nI (show 26 * r + i < 234 by omega) (by omega), if_pos rfl, often_M b' l' ht hi]
      dsimp only [Option.bind]
      rw [if_pos rfl, ix_nI (by omega), hv, nI_add, nI_1]
    · rw [gI_sI]
      by_cases e : j = 26 * r + i
      · rw [if_pos ⟨rfl, e⟩, e, if_pos (by omega), show (26 * r + i) % 26 = i by omega]
      · rw [if_neg (fun q => e q.2), b3 j hj']
        by_cases e2 : j / 26 = r ∧ j % 26 < i
        · rw [if_pos e2, if_pos (by omega)]
        · rw [if_neg e2, if_neg (by omega)]) m ⟨fun _ _ _ => rfl, fun _ _ => rfl, fun j hj => by rw [if_neg (by omega), Nat.add_zero]; exact (lo_e h hj).2.1⟩
  have cells : ∀ j, j < 234 → loN x' j = loN x j + if j / 26 = r then (L.tn t).count (j % 26) else 0 := fun j hj => by
    have := small j (L.tn t).length hj
    rw [List.take_length] at this
    rw [loN, a4 j hj, nI_clamp this]
  refine ⟨x', m', ?_, ?_, ?_, cells, a5, a1, c1⟩
  · rw [e_X2_scatter]
    dsimp only [ltt]
    rw [hs.1, if_pos (landB_of hs.2.1), nameT_X hs hl ht]
    dsimp only [Option.bind]
    rw [len_X hc p6]
    exact eX
  · rw [e_X11_lays]; exact eM
  · refine h.lo a1 a2 a3 c1 c2 (fun j hj => ?_)
    refine ⟨loN x j + if j / 26 = r then (L.tn t).count (j % 26) else 0, ?_, a4 j hj, ?_⟩
    · by_cases e : j / 26 = r
      · have := hbd (j % 26) (by omega)
        rw [show 26 * r + j % 26 = j by omega] at this
        rw [if_pos e]; exact this
      · rw [if_neg e]; exact (lo_e h hj).2.2
    · rw [c3 j hj]
      by_cases e : j / 26 = r
      · rw [if_pos e, if_pos ⟨e, by omega⟩]
      · rw [if_neg e, if_neg (fun q => e q.1)]
def rivN (x : St) : Nat := (gI x 6 2).toNatClampNeg
def bulN (x : St) : Nat := btot (fun i => (gI x 9 i).toNatClampNeg) (gI x 6 3).toNatClampNeg
def ozN (x : St) (ld k : Nat) : Nat := (gI x (ld + 16) k).toNatClampNeg
/-- the lead is never more than so much -/
def RCon (ld : Nat) (L : LD) (x : St) : Prop := (∀ p k, L.np ≤ p → p < 8 → k < 26 → loN x (26 * p + k) = 0) ∧ TW (fun _ => 1) L x ≤ 9999 ∧ rivN x + bulN x + TW (ozN x ld) L x ≤ 9999999
def LWC (ld bk : Nat) (L : LD) (x m : St) : Prop := LW ld bk L x m ∧ RCon ld L x
theorem RCon.t {x' : St} (h : RCon ld L x) (hz : ∀ p k, L.np ≤ p → p < 8 → k < 26 → loN x' (26 * p + k) = loN x (26 * p + k)) (ht : ∀ W, TW W L x' ≤ TW W L x) (h6 : gI x' 6 2 = gI x 6 2) (h63 : gI x' 6 3 = gI x 6 3) (h9 : ∀ k, gI x' 9 k = gI x 9 k) (h16 : ∀ k, gI x' (ld + 16) k = gI x (ld + 16) k) : RCon ld L x' := by
  obtain ⟨a, b, c⟩ := h
  refine ⟨fun p k h1 h2 h3 => by rw [hz p k h1 h2 h3]; exact a p k h1 h2 h3, Nat.le_trans (ht _) b, ?_⟩
  have e1 : rivN x' = rivN x := by rw [rivN, rivN, h6]
  have e2 : bulN x' = bulN x := by
    unfold bulN
    rw [h63, show (fun i => (gI x' 9 i).toNatClampNeg) = (fun i => (gI x 9 i).toNatClampNeg) from funext fun i => by rw [h9]]
  have e3 : ozN x' ld = ozN x ld := funext fun k => by rw [ozN, ozN, h16]
  rw [e1, e2, e3]
  have := ht (ozN x ld)
  omega
theorem RCon.c {x' : St} (h : RCon ld L x) (h7 : ∀ k, gI x' 7 k = gI x 7 k) (h8 : ∀ k, gI x' 8 k = gI x 8 k) (h6 : gI x' 6 2 = gI x 6 2) (h63 : gI x' 6 3 = gI x 6 3) (h9 : ∀ k, gI x' 9 k = gI x 9 k) (h16 : ∀ k, gI x' (ld + 16) k = gI x (ld + 16) k) : RCon ld L x' :=
  h.t (fun p k _ _ _ => by rw [loN, loN, h8]) (fun W => Nat.le_of_eq (TW_c h7 h8)) h6 h63 h9 h16
theorem land16 (hld : isLand ld) : ld + 16 = 50 ∨ ld + 16 = 70 := by rcases hld with rfl | rfl <;> omega
theorem LWC_c : CongrL LWC := by
  intro ld bk L x m x' m' hx hm hld hb h
  refine ⟨LW_c ld bk L x m x' m' hx hm hld hb h.1, h.2.c (fun k => hx.1 _ _ rfl) (fun k => hx.1 _ _ rfl) (hx.1 _ _ rfl) (hx.1 _ _ rfl) (fun k => hx.1 _ _ rfl) (fun k => hx.1 _ _ ?_)⟩
  rcases hld with rfl | rfl <;> rfl
theorem LWC_o : ∀ ld bk L x m x' m', OffX x x' → OffM m m' → isLand ld → bk < 2 → LWC ld bk L x m → LWC ld bk L x' m' := by
  intro ld bk L x m x' m' hx hm hld hb h
  have xl : ∀ j k, j ≤ 19 → gI x' (ld + j) k = gI x (ld + j) k := by
    intro j k hj
    refine hx.1 _ _ ?_
    rcases hld with rfl | rfl <;> simp [xA] <;> omega
  refine ⟨fun i hi => ?_, h.2.c (fun k => hx.1 _ _ rfl) (fun k => hx.1 _ _ rfl) (hx.1 _ _ rfl) (hx.1 _ _ rfl) (fun k => hx.1 _ _ rfl) (fun k => xl 16 k (by omega))⟩
  obtain ⟨s, t, a, b, h1, h2, h3, h4, h5, h6, h7, h8, h9, h10, h11, h12⟩ := h.1 i hi
  refine ⟨s, t, a, b, h1, h2, by rw [xl 12 _ (by omega)]; exact h3, by rw [xl 12 _ (by omega)]; exact h4, by rw [xl 12 _ (by omega)]; exact h5, h6, fun k hk => by rw [xl 19 _ (by omega)]; exact h7 k hk, by rw [hm.1 17 _ rfl]; exact h8, by rw [hm.1 18 _ rfl]; exact h9, by rw [hm.1 19 _ rfl]; exact h10, h11, fun k hk => ?_⟩
  rw [hm.1 24 _ rfl, hm.1 25 _ rfl]; exact h12 k hk
abbrev RelF : St → St → Prop := RelOf (RelB LWC)
theorem RelF.op {x m : St} (h : RelF x m) : ∃ ld bk L, K ld bk L x m ∧ RCon ld L x := by
  obtain ⟨a, ld, bk, L, s, b, l, w, d⟩ := h
  exact ⟨ld, bk, L, ⟨a, s, b, l, w.1, d⟩, w.2⟩
theorem K.rel {x m : St} (h : K ld bk L x m) (c : RCon ld L x) : RelF x m := ⟨h.1, ld, bk, L, h.2.1, h.2.2.1, h.2.2.2.1, ⟨h.2.2.2.2.1, c⟩, h.2.2.2.2.2⟩
theorem refuseF {k : Nat} {x m : St} (h : RelF x m) (hk : k < 6) : RelF (sI x 2 k (gI x 2 k + 1)) (sI m 32 k (gI m 32 k + 1)) := rel_refuse (congrB LWC_o) h hk
/-- a title is dropped on the heap -/
theorem dropB (h : K ld bk L x m) (hT : TW (fun _ => 1) L x ≤ 9999) {p t : Nat} (hp : p < L.np) (ht : t < L.nt) (hh : hasT x p t = true) : ∃ x' m', f_X1_dropTitle (nI p) (nI t) x = some (loadS x' ld L p, x') ∧ f_X11_sheds (nI p) (nI t) m = some ((), m') ∧ K ld bk L x' m' ∧ coatN x' p = coatN x p ^^^ 2 ^ t ∧ (∀ W, TW W L x' = TW W L x) ∧ (∀ j, j < 208 → loN x' j = loN x j) ∧ ∀ o k, o ≠ 7 → o ≠ 8 → o ≠ 13 → o ≠ 14 → o ≠ 19 → o ≠ 20 → gI x' o k = gI x o k := by
  obtain ⟨-, hs, hb, hl, hw, hd⟩ := id h
  have h8 := hl.1.1
  obtain ⟨x1, m1, e1, e2, k1, cn, c7, tw, fx, fm⟩ := goB h hp ht hh
  have t1 := tw (fun _ => 1)
  rw [nw_1] at t1
  obtain ⟨x2, m2, e3, e4, k2, cl2, tw2, fx2, fm2⟩ := scatB k1 ht (r := 8) (by omega) (fun k hk => by
    have := List.count_le_length (a := k) (l := L.tn t)
    have q := lsum_ge (f := loN x1) (n := 234) (i := 26 * 8 + k) (by omega)
    have : TW (fun _ => 1) L x1 = lsum (fun _ => 1) (loN x1) 234 + csum (fun t => nw (fun _ => 1) (L.tn t)) L.nt (coatN x1) 8 := rfl
    omega)
  obtain ⟨-, hs2, hb2, hl2, hw2, hd2⟩ := id k2
  obtain ⟨x3, m3, e5, e6, k3, fx3, fm3⟩ := noteB k2 1 (nI p) (-1) (ozT x2 ld t)
  obtain ⟨-, hs3, hb3, hl3, hw3, hd3⟩ := id k3
  have sev : ∀ k, gI x3 7 k = gI x1 7 k := fun k => by rw [fx3 7 k (by decide) (by omega), fx2 7 k (by decide)]
  have eig : ∀ k, gI x3 8 k = gI x2 8 k := fun k => fx3 8 k (by decide) (by omega)
  refine ⟨x3, m3, ?_, ?_, k3, ?_, fun W => ?_, fun j hj => ?_, fun o k h1 h2 h3 h4 h5 h6 => ?_⟩
  · rw [e_X1_dropTitle, bears_X hs hl hd hp ht, hh]
    dsimp only [Option.bind]
    rw [if_neg (by decide), e1]
    dsimp only
    rw [show (8 : Int32) = nI 8 from rfl, e3]
    dsimp only [ltt]
    rw [hs2.1, if_pos (landB_of hs2.2.1), e_X4_titleOunces, getT1 hs2 hl2 ht]
    dsimp only [Option.bind]
    rw [e5]
    dsimp only
    rw [load_X hs3 hl3 hd3 (by omega)]
  · rw [e_X11_sheds, e2]
    dsimp only [Option.bind]
    rw [show (8 : Int32) = nI 8 from rfl, e4]
    dsimp only
    rw [ozT_M hb2 hl2 ht]
    dsimp only
    rw [e6]
  · rw [← cn, coatN, coatN, sev]
  · rw [TW_c (fun k => fx3 7 k (by decide) (by omega)) eig, tw2 W, ← tw W]
  · rw [loN, eig, ← loN, cl2 j (by omega), if_neg (by omega), Nat.add_zero, loN, loN, fx 8 j (by decide) (by decide) (by omega)]
  · rw [fx3 o k h6 (fun q => h5 q.1), fx2 o k h2, fx o k h1 h4 (fun q => h3 q.1)]
theorem step12 : Step_12 RelF := by
  intro a b x m h
  obtain ⟨ld, bk, L, k0, rc⟩ := h.op
  obtain ⟨-, hs, hb, hl, hw, hd⟩ := id k0
  have h8 := hl.1.1
  have h12 := hl.2.1.1
  have X := e_X10_shed a b x
  have M := e_X11_shed a b m
  rw [isP_M hb hl] at M
  dsimp only [Option.bind] at M
  have bad : f_X2_bears a b x = some (0, x) → f_X11_shed a b m = some (-1, sI m 32 2 (gI m 32 2 + 1)) → ∃ r σx' σm', f_X10_shed a b x = some (r, σx') ∧ f_X11_shed a b m = some (r, σm') ∧ RelF σx' σm' := by
    intro q1 q2
    refine ⟨-1, sI x 2 2 (gI x 2 2 + 1), _, ?_, q2, refuseF h (by omega)⟩
    rw [X, e_X1_dropTitle, q1]
    dsimp only [Option.bind]
    rw [if_pos rfl]
    dsimp only
    rw [show (2 : Int32) = nI 2 from rfl, cnt_X (by omega)]
  have rf : f_X11_refuses 2 m = some (-1, sI m 32 2 (gI m 32 2 + 1)) := rf_M (k := 2) (by omega) m
  cases hp : inb a L.np
  · rw [hp, if_pos (by decide), rf] at M
    exact bad (bears_no hs hl (Or.inl hp)) M
  rw [hp, if_neg (by decide), isT_M hb hl] at M
  dsimp only at M
  cases hq : inb b L.nt
  · rw [hq, if_pos (by decide), rf] at M
    exact bad (bears_no hs hl (Or.inr hq)) M
  rw [hq, if_neg (by decide)] at M
  obtain ⟨p, hp', rfl⟩ := inb_of hp (by omega)
  obtain ⟨t, ht, rfl⟩ := inb_of hq (by omega)
  rw [hasT_M hl hd (by omega) (by omega)] at M
  dsimp only at M
  cases hh : hasT x p t
  · rw [hh, if_pos (by decide), rf] at M
    exact bad (by rw [bears_X hs hl hd hp' ht, hh]; rfl) M
  rw [hh, if_neg (by decide)] at M
  obtain ⟨x', m', e1, e2, k1, -, tw, lo, fx⟩ := dropB k0 rc.2.1 hp' ht hh
  obtain ⟨-, hs', hb', hl', hw', hd'⟩ := id k1
  obtain ⟨n1, n2⟩ := load_N hl' hd' (p := p) (by omega)
  have l16 := land16 hs.2.1
  refine ⟨nI (loadN x' ld L p), x', m', ?_, ?_, k1.rel (rc.t (fun q k h1 h2 h3 => lo _ (by omega)) (fun W => Nat.le_of_eq (tw W)) (fx 6 2 (by decide) (by decide) (by decide) (by decide) (by decide) (by decide)) (fx 6 3 (by decide) (by decide) (by decide) (by decide) (by decide) (by decide)) (fun k => fx 9 k (by decide) (by decide) (by decide) (by decide) (by decide) (by decide)) (fun k => fx _ k (by omega) (by omega) (by omega) (by omega) (by omega) (by omega)))⟩
  · rw [X, e1]
    dsimp only [Option.bind]
    rw [n1, cnt_ok (nI_ne1 (by omega))]
  · rw [M, e2]
    dsimp only
    rw [load_M hb' hl' hd' (by omega), n1]
end Lay
