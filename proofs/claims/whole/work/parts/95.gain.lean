/-! ===== letters gathered; gain ===== -/
section Gather
variable {ld bk : Nat} {L : LD} {x m : St}
/-- a loose cell when the first i letters have been taken -/
def gc (x : St) (L : LD) (p t i j : Nat) : Nat := if j / 26 = 8 then loN x j - lk x L p t i (j % 26) else if j / 26 = p then loN x j - (((L.tn t).take i).count (j % 26) - lk x L p t i (j % 26)) else loN x j
theorem gc_le (p t i j : Nat) : gc x L p t i j ≤ loN x j := by unfold gc; split; omega; split <;> omega
theorem gc_s {p t i : Nat} (hp : p < 8) (hi : i < (L.tn t).length) (hc : (L.tn t)[i] < 26) {j : Nat} (hj : j < 234) : gc x L p t (i + 1) j = (if loN x (26 * p + (L.tn t)[i]) ≤ ((L.tn t).take i).count (L.tn t)[i] then (if j = 208 + (L.tn t)[i] then gc x L p t i j - 1 else gc x L p t i j) else (if j = 26 * p + (L.tn t)[i] then gc x L p t i j - 1 else gc x L p t i j)) := by
  by_cases e : j % 26 = (L.tn t)[i]
  · have k1 : ((L.tn t).take (i + 1)).count (j % 26) = ((L.tn t).take i).count (j % 26) + 1 := by rw [cnt_s hi, if_pos e]
    have k2 := lk_s (x := x) (L := L) (p := p) hi (j % 26)
    rw [← e]
    have kk : lk x L p t i (j % 26) = ((L.tn t).take i).count (j % 26) - loN x (26 * p + j % 26) := rfl
    by_cases c : loN x (26 * p + j % 26) ≤ ((L.tn t).take i).count (j % 26)
    · rw [if_pos ⟨e, c⟩] at k2
      rw [if_pos c]
      unfold gc
      rw [k1, k2, kk]
      by_cases e8 : j / 26 = 8
      · simp only [if_pos e8]
        rw [if_pos (show j = 208 + j % 26 by omega)]; omega
      · simp only [if_neg e8]
        rw [if_neg (show ¬ j = 208 + j % 26 by omega)]
        by_cases ep : j / 26 = p
        · simp only [if_pos ep]; omega
        · simp only [if_neg ep]
    · rw [if_neg (fun q => c q.2)] at k2
      rw [if_neg c]
      unfold gc
      rw [k1, k2, kk]
      by_cases e8 : j / 26 = 8
      · simp only [if_pos e8]
        rw [if_neg (show ¬ j = 26 * p + j % 26 by omega)]; omega
      · simp only [if_neg e8]
        by_cases ep : j / 26 = p
        · simp only [if_pos ep]
          rw [if_pos (show j = 26 * p + j % 26 by omega)]; omega
        · simp only [if_neg ep]
          rw [if_neg (show ¬ j = 26 * p + j % 26 by omega)]
  · have k1 : ((L.tn t).take (i + 1)).count (j % 26) = ((L.tn t).take i).count (j % 26) := by rw [cnt_s hi, if_neg e, Nat.add_zero]
    have k2 := lk_s (x := x) (L := L) (p := p) hi (j % 26)
    rw [if_neg (fun q => e q.1)] at k2
    have k2' : lk x L p t (i + 1) (j % 26) = lk x L p t i (j % 26) := k2
    have k3 : gc x L p t (i + 1) j = gc x L p t i j := by unfold gc; rw [k1, k2']
    rw [k3]
    split
    · rw [if_neg (by omega)]
    · rw [if_neg (by omega)]
theorem gatherB (h : K ld bk L x m) {p t : Nat} (hp : p < L.np) (ht : t < L.nt) (en : Enough x L p t) : ∃ x' m', f_X2_gather (nI t) (nI p) x = some ((), x') ∧ (∀ v, f_X11_gains_10 FU (nI p) (nI t) v 0 m = ((f_X11_comes (nI p) (nI t) m').bind fun q1 => (f_X11_notes (0 : Int32) (nI p) (-1 : Int32) v q1.2).bind fun q2 => some ((), q2.2))) ∧ K ld bk L x' m' ∧ (∀ W, TW W L x' + nw W (L.tn t) = TW W L x) ∧ (∀ j, j < 234 → j / 26 ≠ 8 → j / 26 ≠ p → loN x' j = loN x j) ∧ (∀ o k, o ≠ 8 → gI x' o k = gI x o k) ∧ ∀ o k, o ≠ 36 → gI m' o k = gI m o k := by
  obtain ⟨-, hs, hb, hl, hw, hd⟩ := id h
  obtain ⟨p1, p6, hc⟩ := nmT hl ht
  have h8 := hl.1.1
  have small : ∀ j i, j < 234 → gc x L p t i j ≤ 9999 := fun j i hj => Nat.le_trans (gc_le p t i j) (lo_e h hj).2.2
  have g0 : ∀ j, gc x L p t 0 j = loN x j := fun j => by
    unfold gc lk
    rw [List.take_zero, List.count_nil]
    split
    · omega
    · split <;> omega
  -- here
  obtain ⟨x', ⟨a1, a2, a3, a4, a5⟩, eX⟩ := loop_exF (fun n (σ : St) i => f_X2_gather_21 n (nI p) (nI (pk5 (L.tn t))) (nI (L.tn t).length) (nI i) σ) (fun σ => some ((), σ)) (L.tn t).length (by omega) (fun i σ => (∀ o k, o ≠ 8 → gI σ o k = gI x o k) ∧ (∀ o k, gR σ o k = gR x o k) ∧ (∀ o k, gL σ o k = gL x o k) ∧ (∀ j, j < 234 → gI σ 8 j = nI (gc x L p t i j)) ∧ ∀ W, TW W L σ + nw W ((L.tn t).take i) = TW W L x) (fun n σ hσ => by
    rw [e_X2_gather_21, if_pos (nI_le (Nat.le_refl _) (by omega))]) (fun n σ i hi hσ => by
    obtain ⟨b1, b2, b3, b4, b5⟩ := hσ
    have hcl := hc _ (List.getElem_mem hi)
    have v1 := b4 (26 * p + (L.tn t)[i]) (by omega)
    have s1 := small (26 * p + (L.tn t)[i]) i (by omega)
    have s2 := small (208 + (L.tn t)[i]) i (by omega)
    have own : gc x L p t i (26 * p + (L.tn t)[i]) = loN x (26 * p + (L.tn t)[i]) - (((L.tn t).take i).count (L.tn t)[i] - lk x L p t i (L.tn t)[i]) := by
      unfold gc
      rw [if_neg (by omega), if_pos (by omega), show (26 * p + (L.tn t)[i]) % 26 = (L.tn t)[i] by omega]
    have heap : gc x L p t i (208 + (L.tn t)[i]) = loN x (208 + (L.tn t)[i]) - lk x L p t i (L.tn t)[i] := by
      unfold gc
      rw [if_pos (by omega), show (208 + (L.tn t)[i]) % 26 = (L.tn t)[i] by omega]
    have enc := Nat.le_trans (lk_mono (x := x) (L := L) (p := p) (t := t) (i := i + 1) (L.tn t)[i]) (en _ hcl)
    have st := lk_s (x := x) (L := L) (p := p) hi (L.tn t)[i]
    -- one cell less
    have step : ∀ idx, idx < 234 → idx % 26 = (L.tn t)[i] → 1 ≤ gc x L p t i idx → (∀ j, j < 234 → gc x L p t (i + 1) j = if j = idx then gc x L p t i j - 1 else gc x L p t i j) → (∀ o k, o ≠ 8 → gI (sI σ 8 idx (nI (gc x L p t i idx - 1))) o k = gI x o k) ∧ (∀ o k, gR (sI σ 8 idx (nI (gc x L p t i idx - 1))) o k = gR x o k) ∧ (∀ o k, gL (sI σ 8 idx (nI (gc x L p t i idx - 1))) o k = gL x o k) ∧ (∀ j, j < 234 → gI (sI σ 8 idx (nI (gc x L p t i idx - 1))) 8 j = nI (gc x L p t (i + 1) j)) ∧ ∀ W, TW W L (sI σ 8 idx (nI (gc x L p t i idx - 1))) + nw W ((L.tn t).take (i + 1)) = TW W L x := by
      intro idx hidx hm h1 hg
      refine ⟨fun o k ho => by rw [gI_sI, if_neg (fun q => ho q.1)]; exact b1 o k ho, b2, b3, fun j hj => ?_, fun W => ?_⟩
      · rw [gI_sI, hg j hj]
        by_cases e : j = idx
        · rw [if_pos ⟨rfl, e⟩, if_pos e, e]
        · rw [if_neg (fun q => e q.2), if_neg e]; exact b4 j hj
      · have sm := small idx i hidx
        have t1 := TW_lo (W := W) (L := L) (x := σ) (x' := sI σ 8 idx (nI (gc x L p t i idx - 1))) hidx (fun k => by rw [gI_sI, if_neg (by omega)]) (fun k hk => by rw [gI_sI, if_neg (fun q => hk q.2)])
        have l1 : loN σ idx = (gc x L p t i idx - 1) + 1 := by rw [loN, b4 idx hidx, nI_clamp (by omega)]; omega
        have l2 : loN (sI σ 8 idx (nI (gc x L p t i idx - 1))) idx = gc x L p t i idx - 1 := by rw [loN, gI_sI, if_pos ⟨rfl, rfl⟩, nI_clamp (by omega)]
        rw [l1, l2, hm, Nat.mul_add, Nat.mul_one] at t1
        have := b5 W
        rw [List.take_succ_eq_append_getElem hi, nw_app, nw, nw]
        omega
    have e0 : f_X2_gather_21 (n + 1) (nI p) (nI (pk5 (L.tn t))) (nI (L.tn t).length) (nI i) σ = (if nI (gc x L p t i (26 * p + (L.tn t)[i])) ≤ 0 then f_X2_gather_21 n (nI p) (nI (pk5 (L.tn t))) (nI (L.tn t).length) (nI (i + 1)) (sI σ 8 (208 + (L.tn t)[i]) (gI σ 8 (208 + (L.tn t)[i]) + (-1))) else f_X2_gather_21 n (nI p) (nI (pk5 (L.tn t))) (nI (L.tn t).length) (nI (i + 1)) (sI σ 8 (26 * p + (L.tn t)[i]) (gI σ 8 (26 * p + (L.tn t)[i]) + (-1)))) := by
      rw [e_X2_gather_21, if_neg (nI_ge hi (by omega)), letter_X hc p6, if_pos (inb_nI hi (by omega)), ix_nI (by omega), show (L.tn t).getD i 0 = (L.tn t)[i] by simp [List.getD, hi]]
      dsimp only [Option.bind]
      rw [count_X (by omega) hcl, v1]
      dsimp only
      rw [show (8 : Int32) = nI 8 from rfl, change_X (r := 8) (by omega) hcl, change_X (by omega) hcl, nI_1, show 26 * 8 + (L.tn t)[i] = 208 + (L.tn t)[i] from rfl, v1]
    rw [e0]
    by_cases c : loN x (26 * p + (L.tn t)[i]) ≤ ((L.tn t).take i).count (L.tn t)[i]
    · have z : gc x L p t i (26 * p + (L.tn t)[i]) = 0 := by rw [own]; unfold lk; omega
      have hp1 : 1 ≤ gc x L p t i (208 + (L.tn t)[i]) := by rw [heap]; rw [if_pos ⟨rfl, c⟩] at st; omega
      rw [z, if_pos (by decide), b4 (208 + (L.tn t)[i]) (by omega), show nI (gc x L p t i (208 + (L.tn t)[i])) + (-1) = nI (gc x L p t i (208 + (L.tn t)[i]) - 1) by
        obtain ⟨q, hq⟩ : ∃ q, gc x L p t i (208 + (L.tn t)[i]) = q + 1 := ⟨_, (Nat.sub_add_cancel hp1).symm⟩
        rw [hq, pk_m1, Nat.add_sub_cancel]]
      exact ⟨_, rfl, step (208 + (L.tn t)[i]) (by omega) (by omega) hp1 (fun j hj => by rw [gc_s (by omega) hi hcl hj, if_pos c])⟩
    · have hp1 : 1 ≤ gc x L p t i (26 * p + (L.tn t)[i]) := by rw [own]; unfold lk; omega
      rw [if_neg (nI_nle (by omega) (by omega)), v1, show nI (gc x L p t i (26 * p + (L.tn t)[i])) + (-1) = nI (gc x L p t i (26 * p + (L.tn t)[i]) - 1) by
        obtain ⟨q, hq⟩ : ∃ q, gc x L p t i (26 * p + (L.tn t)[i]) = q + 1 := ⟨_, (Nat.sub_add_cancel hp1).symm⟩
        rw [hq, pk_m1, Nat.add_sub_cancel]]
      exact ⟨_, rfl, step (26 * p + (L.tn t)[i]) (by omega) (by omega) hp1 (fun j hj => by rw [gc_s (by omega) hi hcl hj, if_neg c])⟩) x ⟨fun _ _ _ => rfl, fun _ _ => rfl, fun _ _ => rfl, fun j hj => by rw [g0]; exact (lo_e h hj).1, fun W => by rw [List.take_zero, nw, Nat.add_zero]⟩
  rw [List.take_length] at a5
  -- there
  have hM : ∃ m', (∀ v, f_X11_gains_10 FU (nI p) (nI t) v 0 m = ((f_X11_comes (nI p) (nI t) m').bind fun q1 => (f_X11_notes (0 : Int32) (nI p) (-1 : Int32) v q1.2).bind fun q2 => some ((), q2.2))) ∧ (∀ o k, o ≠ 36 → gI m' o k = gI m o k) ∧ (∀ o k, gL m' o k = gL m o k) ∧ ∀ j, j < 234 → gI m' 36 j = nI (gc x L p t (L.tn t).length j) := by
    have key : ∀ d i n σ, i + d = 26 → d < n → (∀ o k, o ≠ 36 → gI σ o k = gI m o k) → (∀ o k, gL σ o k = gL m o k) → (∀ j, j < 234 → gI σ 36 j = nI (if j % 26 < i then gc x L p t (L.tn t).length j else loN x j)) → ∃ m', (∀ v, f_X11_gains_10 n (nI p) (nI t) v (nI i) σ = ((f_X11_comes (nI p) (nI t) m').bind fun q1 => (f_X11_notes (0 : Int32) (nI p) (-1 : Int32) v q1.2).bind fun q2 => some ((), q2.2))) ∧ (∀ o k, o ≠ 36 → gI m' o k = gI m o k) ∧ (∀ o k, gL m' o k = gL m o k) ∧ ∀ j, j < 234 → gI m' 36 j = nI (gc x L p t (L.tn t).length j) := by
      intro d
      induction d with
      | zero =>
        intro i n σ hi hn h1 h2 h3
        obtain ⟨n, rfl⟩ : ∃ k, n = k + 1 := ⟨n - 1, by omega⟩
        have : i = 26 := by omega
        subst this
        exact ⟨σ, fun v => by rw [e_X11_gains_10, if_pos (by decide)], h1, h2, fun j hj => by rw [h3 j hj, if_pos (by omega)]⟩
      | succ d ih =>
        intro i n σ hi hn h1 h2 h3
        obtain ⟨n, rfl⟩ : ∃ k, n = k + 1 := ⟨n - 1, by omega⟩
        obtain ⟨-, b', l', -⟩ := stat (DyX.rf x) (show DyM m σ from ⟨fun o k e => h1 o k (fun q => by rw [q] at e; cases e), fun o k _ => h2 o k⟩) hs hb hl hw
        have v1 := h3 (26 * p + i) (by omega)
        rw [if_neg (by omega)] at v1
        have v2 := h3 (208 + i) (by omega)
        rw [if_neg (by omega)] at v2
        have lo1 := (lo_e h (i := 26 * p + i) (by omega)).2.2
        have lkb := en i (by omega)
        have c6 : (L.tn t).count i ≤ 6 := Nat.le_trans List.count_le_length p6
        have lkd : lk x L p t (L.tn t).length i = (L.tn t).count i - loN x (26 * p + i) := by unfold lk; rw [List.take_length]
        have go : gc x L p t (L.tn t).length (26 * p + i) = loN x (26 * p + i) - ((L.tn t).count i - lk x L p t (L.tn t).length i) := by
          unfold gc
          rw [if_neg (by omega), if_pos (by omega), show (26 * p + i) % 26 = i by omega, List.take_length]
        have gh : gc x L p t (L.tn t).length (208 + i) = loN x (208 + i) - lk x L p t (L.tn t).length i := by
          unfold gc
          rw [if_pos (by omega), show (208 + i) % 26 = i by omega]
        obtain ⟨m', q1, q2, q3, q4⟩ := ih (i + 1) n (sI (sI σ 36 (26 * p + i) (nI (gc x L p t (L.tn t).length (26 * p + i)))) 36 (208 + i) (nI (gc x L p t (L.tn t).length (208 + i)))) (by omega) (by omega) (fun o k ho => by rw [gI_sI, if_neg (fun q => ho q.1), gI_sI, if_neg (fun q => ho q.1)]; exact h1 o k ho) h2 (fun j hj => by
          rw [gI_sI]
          by_cases e : j = 208 + i
          · rw [if_pos ⟨rfl, e⟩, if_pos (by omega), e]
          · rw [if_neg (fun q => e q.2), gI_sI]
            by_cases e2 : j = 26 * p + i
            · rw [if_pos ⟨rfl, e2⟩, if_pos (by omega), e2]
            · rw [if_neg (fun q => e2 q.2), h3 j hj]
              by_cases c : j % 26 < i
              · rw [if_pos c, if_pos (by omega)]
              · rw [if_neg c]
                by_cases c2 : j % 26 = i
                · rw [if_pos (by omega)]
                  unfold gc
                  rw [if_neg (by omega), if_neg (by omega)]
                · rw [if_neg (by omega)])
        refine ⟨m', fun v => ?_, q2, q3, q4⟩
        rw [e_X11_gains_10, if_neg (show ¬ (26 : Int32) ≤ nI i from nI_ge (b := 26) (by omega) (by omega)), lacks_M' h hp ht (by omega) b' l' v1]
        dsimp only [Option.bind, ltt]
        rw [show (26 : Int32) = nI 26 from rfl, pk_mul, nI_add, inb_nI (show 26 * p + i < 234 by omega) (by omega), if_pos rfl, often_M b' l' ht (by omega)]
        dsimp only
        rw [if_pos rfl, ix_nI (by omega), v1, pk_sub (by omega), pk_sub (by omega), ← go, show (208 : Int32) = nI 208 from rfl, nI_add, inb_nI (show 208 + i < 234 by omega) (by omega), if_pos rfl, if_pos rfl, ix_nI (by omega)]
        have v3 : gI (sI σ 36 (26 * p + i) (nI (gc x L p t (L.tn t).length (26 * p + i)))) 36 (208 + i) = nI (loN x (208 + i)) := by rw [gI_sI, if_neg (by omega)]; exact v2
        rw [v3, pk_sub lkb, ← gh, nI_1]
        exact q1 v
    exact key 26 0 FU m (by omega) (by rw [FU_eq]; omega) (fun _ _ _ => rfl) (fun _ _ => rfl) (fun j hj => by rw [if_neg (by omega)]; exact (lo_e h hj).2.1)
  obtain ⟨m', q1, q2, q3, q4⟩ := hM
  refine ⟨x', m', ?_, q1, h.lo a1 a2 a3 q2 q3 (fun j hj => ⟨_, small j _ hj, a4 j hj, q4 j hj⟩), a5, fun j hj e1 e2 => ?_, a1, q2⟩
  · rw [e_X2_gather]
    dsimp only [ltt]
    rw [hs.1, if_pos (landB_of hs.2.1), nameT_X hs hl ht]
    dsimp only [Option.bind]
    rw [len_X hc p6]
    exact eX
  · have := small j (L.tn t).length hj
    rw [loN, a4 j hj, nI_clamp (by omega), gc, if_neg e1, if_neg e2]
/-- a title is made, and noted -/
theorem makeB (h : K ld bk L x m) {p t : Nat} (hp : p < L.np) (ht : t < L.nt) (hh : hasT x p t = false) (en : Enough x L p t) (v : Int32) : ∃ x' m', ((f_X2_gather (nI t) (nI p) x).bind fun q7 => (f_X2_come (nI p) (nI t) q7.2).bind fun q8 => (f_X1_note (0 : Int32) (nI p) (-1 : Int32) v q8.2).bind fun q9 => (f_X2_loadOf (nI p) q9.2).bind fun q10 => some (q10.1, q10.2)) = some (loadS x' ld L p, x') ∧ f_X11_gains_10 FU (nI p) (nI t) v 0 m = some ((), m') ∧ K ld bk L x' m' ∧ (∀ W, TW W L x' = TW W L x) ∧ (∀ j, j < 234 → j / 26 ≠ 8 → j / 26 ≠ p → loN x' j = loN x j) ∧ ∀ o k, o ≠ 7 → o ≠ 8 → o ≠ 10 → o ≠ 19 → o ≠ 20 → gI x' o k = gI x o k := by
  have h8 := h.2.2.2.1.1.1
  obtain ⟨x1, m1, e1, e2, k1, tw1, lo1, fx1, fm1⟩ := gatherB h hp ht en
  have hh1 : hasT x1 p t = false := by rw [hasT, fx1 7 p (by decide)]; exact hh
  obtain ⟨x2, m2, e3, e4, k2, -, c7, tw2, fx2, fm2⟩ := comeB k1 hp ht hh1
  obtain ⟨x3, m3, e5, e6, k3, fx3, fm3⟩ := noteB k2 0 (nI p) (-1) v
  obtain ⟨-, hs3, hb3, hl3, hw3, hd3⟩ := id k3
  have eig : ∀ k, gI x3 8 k = gI x1 8 k := fun k => by rw [fx3 8 k (by decide) (by omega), fx2 8 k (by decide) (by decide)]
  refine ⟨x3, m3, ?_, ?_, k3, fun W => ?_, fun j hj n1 n2 => ?_, fun o k h1 h2 h3 h4 h5 => ?_⟩
  · rw [e1]
    dsimp only [Option.bind]
    rw [e3]
    dsimp only
    rw [e5]
    dsimp only
    rw [load_X hs3 hl3 hd3 (by omega)]
  · rw [e2 v, e4]
    dsimp only [Option.bind]
    rw [e6]
  · rw [TW_c (fun k => fx3 7 k (by decide) (by omega)) (fun k => fx3 8 k (by decide) (by omega)), tw2 W, tw1 W]
  · rw [loN, eig]; exact lo1 j hj n1 n2
  · rw [fx3 o k h5 (fun q => h4 q.1), fx2 o k h1 h3, fx1 o k h2]
theorem step11 : Step_11 RelF := by
  intro a b x m h
  obtain ⟨ld, bk, L, k0, rc⟩ := h.op
  obtain ⟨-, hs, hb, hl, hw, hd⟩ := id k0
  have h8 := hl.1.1
  have h12 := hl.2.1.1
  have X := e_X10_gain a b x
  have M := e_X11_gain a b m
  rw [isP_M hb hl] at M
  dsimp only [Option.bind] at M
  have bad : ∀ x1 m1, RelF x1 m1 → f_X2_gainOunces a b x = some (-1, x1) → f_X11_gain a b m = some (-1, sI m1 32 2 (gI m1 32 2 + 1)) → ∃ r σx' σm', f_X10_gain a b x = some (r, σx') ∧ f_X11_gain a b m = some (r, σm') ∧ RelF σx' σm' := by
    intro x1 m1 r1 q1 q2
    refine ⟨-1, sI x1 2 2 (gI x1 2 2 + 1), _, ?_, q2, refuseF r1 (by omega)⟩
    rw [X, e_X1_makeTitle, q1]
    dsimp only [Option.bind]
    rw [if_pos rfl]
    dsimp only
    rw [show (2 : Int32) = nI 2 from rfl, cnt_X (by omega)]
  have rf : ∀ m1, f_X11_refuses 2 m1 = some (-1, sI m1 32 2 (gI m1 32 2 + 1)) := fun m1 => rf_M (k := 2) (by omega) m1
  have gno : inb a L.np = false ∨ inb b L.nt = false → f_X2_gainOunces a b x = some (-1, x) := by
    intro q
    rw [e_X2_gainOunces, lacks_no hs hl q]
    dsimp only [Option.bind]
    rw [if_pos rfl]
  cases hp : inb a L.np
  · rw [hp, if_pos (by decide), rf] at M
    exact bad x m h (gno (Or.inl hp)) M
  rw [hp, if_neg (by decide), isT_M hb hl] at M
  dsimp only at M
  cases hq : inb b L.nt
  · rw [hq, if_pos (by decide), rf] at M
    exact bad x m h (gno (Or.inr hq)) M
  rw [hq, if_neg (by decide)] at M
  obtain ⟨p, hp', rfl⟩ := inb_of hp (by omega)
  obtain ⟨t, ht, rfl⟩ := inb_of hq (by omega)
  obtain ⟨ok, x1, m1, q1, q2, e1, e2, e3⟩ := canB k0 hp' ht
  rw [e2] at M
  dsimp only at M
  cases ok
  · rw [if_pos (by decide), rf] at M
    rw [if_neg (by decide)] at e1
    exact bad x1 m1 (scr LWC_c q1 q2 h) e1 M
  · rw [if_neg (by decide)] at M
    rw [if_pos rfl] at e1
    obtain ⟨hh, en⟩ := e3 rfl
    have k1 := k0.sc q1 q2
    obtain ⟨-, hs1, hb1, hl1, hw1, hd1⟩ := id k1
    have l16 := land16 hs.2.1
    have lo1 : ∀ j, loN x1 j = loN x j := fun j => by rw [loN, loN, q1.1 8 j rfl]
    have lke : ∀ i k, lk x1 L p t i k = lk x L p t i k := fun i k => by unfold lk; rw [lo1]
    have en1 : Enough x1 L p t := fun k hk => by rw [lke, lo1]; exact en k hk
    have hh1 : hasT x1 p t = false := by rw [hasT, q1.1 7 p rfl]; exact hh
    have oz1 : ozN x1 ld = ozN x ld := funext fun k => by rw [ozN, ozN, q1.1 _ _ (by rcases l16 with e | e <;> rw [e] <;> rfl)]
    have lz1 : lz x1 ld L p t (L.tn t).length = lz x ld L p t (L.tn t).length := by unfold lz; rw [oz1, show lk x1 L p t (L.tn t).length = lk x L p t (L.tn t).length from funext fun k => lke _ k]
    obtain ⟨x2, m2, f1, f2, k2, tw, lo, fx⟩ := makeB k1 hp' ht hh1 en1 (nI (lz x ld L p t (L.tn t).length))
    obtain ⟨-, hs2, hb2, hl2, hw2, hd2⟩ := id k2
    obtain ⟨n1, n2⟩ := load_N hl2 hd2 (p := p) (by omega)
    have hz := lz_le hl (p := p) ht (L.tn t).length (Nat.le_refl _)
    have p6 := (nmT hl ht).2.1
    have rc1 : RCon ld L x1 := (LWC_c ld bk L x m x1 m1 q1 q2 hs.2.1 hb.1 ⟨hw, rc⟩).2
    refine ⟨nI (loadN x2 ld L p), x2, m2, ?_, ?_, k2.rel (rc1.t (fun q k h1 h2 h3 => lo _ (by omega) (by omega) (by omega)) (fun W => Nat.le_of_eq (tw W)) (fx 6 2 (by decide) (by decide) (by decide) (by decide) (by decide)) (fx 6 3 (by decide) (by decide) (by decide) (by decide) (by decide)) (fun k => fx 9 k (by decide) (by decide) (by decide) (by decide) (by decide)) (fun k => fx _ k (by omega) (by omega) (by omega) (by omega) (by omega)))⟩
    · rw [X, e_X1_makeTitle, e1]
      dsimp only [Option.bind]
      rw [if_neg (nI_ne1 (by omega))]
      have f1' := f1
      dsimp only [Option.bind] at f1'
      rw [f1', n1]
      dsimp only
      rw [cnt_ok (nI_ne1 (by omega))]
    · rw [M, e_X11_gains, lz_M k1 hp' ht, lz1]
      dsimp only [Option.bind]
      rw [f2]
      dsimp only
      rw [load_M hb2 hl2 hd2 (by omega), n1]
end Gather
