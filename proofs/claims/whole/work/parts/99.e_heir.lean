/-! ===== heir ===== -/
theorem diff_I (a b : Nat) : nI a &&& (nI b ^^^ (-1)) = nI (a ^^^ (a &&& b)) := by
  have h : (a &&& b) &&& a = a &&& b := by rw [Nat.and_comm a b, Nat.and_assoc, Nat.and_self]
  rw [← rest_I h]
  apply Int32.toBitVec_inj.mp
  apply BitVec.eq_of_getLsbD_eq
  intro i hi
  have hm : (-1 : Int32).toBitVec = BitVec.allOnes 32 := rfl
  simp only [nI, Int32.toBitVec_and, Int32.toBitVec_xor, hm, Int32.toBitVec_ofNat', BitVec.getLsbD_and, BitVec.getLsbD_xor, BitVec.getLsbD_ofNat, BitVec.getLsbD_allOnes, hi, decide_true, Bool.true_and, Nat.testBit_and]
  cases a.testBit i <;> cases b.testBit i <;> rfl
theorem diff_t (a b p : Nat) : (a ^^^ (a &&& b)).testBit p = (a.testBit p && !b.testBit p) := by
  rw [Nat.testBit_xor, Nat.testBit_and]
  cases a.testBit p <;> cases b.testBit p <;> rfl
section Heir
variable {ld bk : Nat} {L : LD} {x m : St}
/-- loose letters go to the heap -/
theorem pourB (h : K ld bk L x m) (hT : TW (fun _ => 1) L x ≤ 9999) {p : Nat} (hp : p < 8) : ∃ x' m', f_X2_pourLoose (nI p) x = some ((), x') ∧ f_X11_empties (nI p) m = some ((), m') ∧ K ld bk L x' m' ∧ (∀ W, TW W L x' = TW W L x) ∧ (∀ j, j < 208 → j / 26 ≠ p → loN x' j = loN x j) ∧ (∀ o k, o ≠ 8 → gI x' o k = gI x o k) ∧ ∀ o k, o ≠ 36 → gI m' o k = gI m o k := by
  have tw0 : TW (fun _ => 1) L x = lsum (fun _ => 1) (loN x) 234 + csum (fun t => nw (fun _ => 1) (L.tn t)) L.nt (coatN x) 8 := rfl
  have bd : ∀ k, k < 26 → loN x (26 * p + k) + loN x (208 + k) ≤ 9999 := fun k hk => by
    have := lsum_ge2 (f := loN x) (n := 234) (i := 26 * p + k) (j := 208 + k) (by omega) (by omega) (by omega)
    omega
  -- what stands in a cell when the first i letters are poured
  let pc : Nat → Nat → Nat := fun i j => if j % 26 < i then (if j / 26 = p then 0 else if j / 26 = 8 then loN x j + loN x (26 * p + j % 26) else loN x j) else loN x j
  have pcb : ∀ i j, j < 234 → pc i j ≤ 9999 := by
    intro i j hj
    show (if j % 26 < i then (if j / 26 = p then 0 else if j / 26 = 8 then loN x j + loN x (26 * p + j % 26) else loN x j) else loN x j) ≤ 9999
    have l1 := (lo_e h hj).2.2
    split
    · split
      · omega
      · split
        · have := bd (j % 26) (by omega)
          rw [show 208 + j % 26 = j by omega] at this
          omega
        · exact l1
    · exact l1
  have pcs : ∀ i j, i < 26 → j < 234 → pc (i + 1) j = if j = 26 * p + i then 0 else if j = 208 + i then loN x (208 + i) + loN x (26 * p + i) else pc i j := by
    intro i j hi hj
    show (if j % 26 < i + 1 then (if j / 26 = p then 0 else if j / 26 = 8 then loN x j + loN x (26 * p + j % 26) else loN x j) else loN x j) = if j = 26 * p + i then 0 else if j = 208 + i then loN x (208 + i) + loN x (26 * p + i) else (if j % 26 < i then (if j / 26 = p then 0 else if j / 26 = 8 then loN x j + loN x (26 * p + j % 26) else loN x j) else loN x j)
    by_cases e1 : j = 26 * p + i
    · rw [if_pos e1, if_pos (by omega), if_pos (by omega)]
    · rw [if_neg e1]
      by_cases e2 : j = 208 + i
      · rw [if_pos e2, if_pos (by omega), if_neg (by omega), if_pos (by omega), e2, show (208 + i) % 26 = i by omega]
      · rw [if_neg e2]
        by_cases e3 : j % 26 < i
        · rw [if_pos e3, if_pos (by omega)]
        · rw [if_neg e3]
          by_cases e4 : j % 26 < i + 1
          · rw [if_pos e4, if_neg (by omega), if_neg (by omega)]
          · rw [if_neg e4]
  obtain ⟨x', ⟨a1, a2, a3, a4, a5⟩, eX⟩ := loop_exF (fun n (σ : St) i => f_X2_pourLoose_2 n (nI p) (nI i) σ) (fun σ => some ((), σ)) 26 (by omega) (fun i σ => (∀ o k, o ≠ 8 → gI σ o k = gI x o k) ∧ (∀ o k, gR σ o k = gR x o k) ∧ (∀ o k, gL σ o k = gL x o k) ∧ (∀ j, j < 234 → gI σ 8 j = nI (pc i j)) ∧ ∀ W, TW W L σ = TW W L x) (fun n σ hσ => by
    rw [e_X2_pourLoose_2, if_pos (by decide)]) (fun n σ i hi hσ => by
    obtain ⟨b1, b2, b3, b4, b5⟩ := hσ
    have v1 : gI σ 8 (26 * p + i) = nI (loN x (26 * p + i)) := by
      rw [b4 _ (by omega)]
      show nI (if (26 * p + i) % 26 < i then _ else _) = _
      rw [if_neg (by omega)]
    have v2 : gI σ 8 (208 + i) = nI (loN x (208 + i)) := by
      rw [b4 _ (by omega)]
      show nI (if (208 + i) % 26 < i then _ else _) = _
      rw [if_neg (by omega)]
    have l1 := (lo_e h (i := 26 * p + i) (by omega)).2.2
    have l2 := (lo_e h (i := 208 + i) (by omega)).2.2
    have l3 := bd i hi
    refine ⟨sI (sI σ 8 (26 * p + i) 0) 8 (208 + i) (nI (loN x (208 + i) + loN x (26 * p + i))), ?_, fun o k ho => by rw [gI_sI, if_neg (fun q => ho q.1), gI_sI, if_neg (fun q => ho q.1)]; exact b1 o k ho, b2, b3, fun j hj => ?_, fun W => ?_⟩
    · rw [e_X2_pourLoose_2, if_neg (show ¬ (26 : Int32) ≤ nI i from nI_ge (b := 26) hi (by omega)), count_X (by omega) hi]
      dsimp only [Option.bind]
      rw [change_X (by omega) hi, i_neg]
      dsimp only
      rw [show (8 : Int32) = nI 8 from rfl, change_X (r := 8) (by omega) hi, show 26 * 8 + i = 208 + i from rfl, gI_sI, if_neg (by omega), v1, v2, nI_add, nI_1]
    · rw [gI_sI, pcs i j hi hj]
      by_cases e2 : j = 208 + i
      · rw [if_pos ⟨rfl, e2⟩, if_neg (by omega), if_pos e2]
      · rw [if_neg (fun q => e2 q.2), gI_sI]
        by_cases e1 : j = 26 * p + i
        · rw [if_pos ⟨rfl, e1⟩, if_pos e1]; rfl
        · rw [if_neg (fun q => e1 q.2), if_neg e1, if_neg e2]; exact b4 j hj
    · have t1 := TW_lo (W := W) (L := L) (x := σ) (x' := sI σ 8 (26 * p + i) 0) (i := 26 * p + i) (by omega) (fun k => by rw [gI_sI, if_neg (by omega)]) (fun k hk => by rw [gI_sI, if_neg (fun q => hk q.2)])
      have t2 := TW_lo (W := W) (L := L) (x := sI σ 8 (26 * p + i) 0) (x' := sI (sI σ 8 (26 * p + i) 0) 8 (208 + i) (nI (loN x (208 + i) + loN x (26 * p + i)))) (i := 208 + i) (by omega) (fun k => by rw [gI_sI, if_neg (by omega)]) (fun k hk => by rw [gI_sI, if_neg (fun q => hk q.2)])
      have u1 : loN σ (26 * p + i) = loN x (26 * p + i) := by rw [loN, v1, nI_clamp (by omega)]
      have u2 : loN (sI σ 8 (26 * p + i) 0) (26 * p + i) = 0 := by rw [loN, gI_sI, if_pos ⟨rfl, rfl⟩]; rfl
      have u3 : loN (sI σ 8 (26 * p + i) 0) (208 + i) = loN x (208 + i) := by rw [loN, gI_sI, if_neg (by omega), v2, nI_clamp (by omega)]
      have u4 : loN (sI (sI σ 8 (26 * p + i) 0) 8 (208 + i) (nI (loN x (208 + i) + loN x (26 * p + i)))) (208 + i) = loN x (208 + i) + loN x (26 * p + i) := by rw [loN, gI_sI, if_pos ⟨rfl, rfl⟩, nI_clamp (by omega)]
      rw [u1, u2, show (26 * p + i) % 26 = i by omega, Nat.mul_zero, Nat.add_zero] at t1
      rw [u3, u4, show (208 + i) % 26 = i by omega, Nat.mul_add] at t2
      have := b5 W
      omega) x ⟨fun _ _ _ => rfl, fun _ _ => rfl, fun _ _ => rfl, fun j hj => by
        show gI x 8 j = nI (if j % 26 < 0 then _ else loN x j)
        rw [if_neg (by omega)]; exact (lo_e h hj).1, fun W => rfl⟩
  obtain ⟨m', ⟨c1, c2, c3⟩, eM⟩ := loop_exF (fun n (σ : St) i => f_X11_empties_2 n (nI p) (nI i) σ) (fun σ => some ((), σ)) 26 (by omega) (fun i σ => (∀ o k, o ≠ 36 → gI σ o k = gI m o k) ∧ (∀ o k, gL σ o k = gL m o k) ∧ ∀ j, j < 234 → gI σ 36 j = nI (pc i j)) (fun n σ hσ => by
    rw [e_X11_empties_2, if_pos (by decide)]) (fun n σ i hi hσ => by
    obtain ⟨b1, b2, b3⟩ := hσ
    have v1 : gI σ 36 (26 * p + i) = nI (loN x (26 * p + i)) := by
      rw [b3 _ (by omega)]
      show nI (if (26 * p + i) % 26 < i then _ else _) = _
      rw [if_neg (by omega)]
    have v2 : gI σ 36 (208 + i) = nI (loN x (208 + i)) := by
      rw [b3 _ (by omega)]
      show nI (if (208 + i) % 26 < i then _ else _) = _
      rw [if_neg (by omega)]
    refine ⟨sI (sI σ 36 (208 + i) (nI (loN x (208 + i) + loN x (26 * p + i)))) 36 (26 * p + i) 0, ?_, fun o k ho => by rw [gI_sI, if_neg (fun q => ho q.1), gI_sI, if_neg (fun q => ho q.1)]; exact b1 o k ho, b2, fun j hj => ?_⟩
    · rw [e_X11_empties_2, if_neg (show ¬ (26 : Int32) ≤ nI i from nI_ge (b := 26) hi (by omega)), show (208 : Int32) = nI 208 from rfl, show (26 : Int32) = nI 26 from rfl, pk_mul, nI_add, nI_add]
      dsimp only [ltt]
      rw [inb_nI (show 208 + i < 234 by omega) (by omega), inb_nI (show 26 * p + i < 234 by omega) (by omega), if_pos rfl, if_pos rfl, if_pos rfl, if_pos rfl, ix_nI (by omega), ix_nI (by omega), v1, v2, nI_add, nI_1]
    · rw [gI_sI, pcs i j hi hj]
      by_cases e1 : j = 26 * p + i
      · rw [if_pos ⟨rfl, e1⟩, if_pos e1]; rfl
      · rw [if_neg (fun q => e1 q.2), if_neg e1, gI_sI]
        by_cases e2 : j = 208 + i
        · rw [if_pos ⟨rfl, e2⟩, if_pos e2]
        · rw [if_neg (fun q => e2 q.2), if_neg e2]; exact b3 j hj) m ⟨fun _ _ _ => rfl, fun _ _ => rfl, fun j hj => by
        show gI m 36 j = nI (if j % 26 < 0 then _ else loN x j)
        rw [if_neg (by omega)]; exact (lo_e h hj).2.1⟩
  refine ⟨x', m', ?_, ?_, h.lo a1 a2 a3 c1 c2 (fun j hj => ⟨_, pcb 26 j hj, a4 j hj, c3 j hj⟩), a5, fun j hj hne => ?_, a1, c1⟩
  · rw [e_X2_pourLoose]; exact eX
  · rw [e_X11_empties]; exact eM
  · have b := pcb 26 j (by omega)
    rw [loN, a4 j (by omega), nI_clamp (by omega)]
    show (if j % 26 < 26 then (if j / 26 = p then 0 else if j / 26 = 8 then loN x j + loN x (26 * p + j % 26) else loN x j) else loN x j) = _
    rw [if_pos (by omega), if_neg hne, if_neg (by omega)]
theorem heirLoop {p q R : Nat} (hp : p < L.np) (hq : q < L.np) (hpq : p ≠ q) (hR : R < 2 ^ 31) : ∀ d i n n' (x m : St), K ld bk L x m → TW (fun _ => 1) L x ≤ 9999 → i + d = L.nt → d < n → d < n' → (∀ t, i ≤ t → t < L.nt → R.testBit t = true → hasT x q t = false) → ∃ x' m', f_X1_inherit_94 n (nI p) (nI q) (nI R) (nI i) x = ((f_X2_pourLoose (nI p) x').bind fun q2 => ltt (gR q2.2 6 0) fun g3 => if landB g3 = true then ((f_X4_ouncesOfSet g3 (nI R) q2.2).bind fun q4 => (f_X1_note (8 : Int32) (nI p) (nI q) q4.1 q4.2).bind fun q5 => some (nI R, q5.2)) else none) ∧ f_X11_heir_72 n' (nI p) (nI q) (nI R) (nI i) m = ((f_X11_empties (nI p) m').bind fun q1 => (f_X11_sumOf (nI R) (0 : Int32) q1.2).bind fun q2 => (f_X11_notes (8 : Int32) (nI p) (nI q) q2.1 q2.2).bind fun q3 => some (nI R, q3.2)) ∧ K ld bk L x' m' ∧ (∀ W, TW W L x' = TW W L x) ∧ (∀ j, j < 208 → loN x' j = loN x j) ∧ ∀ o k, o ≠ 7 → o ≠ 8 → o ≠ 10 → o ≠ 13 → o ≠ 14 → gI x' o k = gI x o k := by
  intro d
  induction d with
  | zero =>
    intro i n n' x m h hT hi hn hn' hfree
    obtain ⟨n, rfl⟩ : ∃ k, n = k + 1 := ⟨n - 1, by omega⟩
    obtain ⟨n', rfl⟩ : ∃ k, n' = k + 1 := ⟨n' - 1, by omega⟩
    obtain ⟨-, hs, hb, hl, hw, hd⟩ := id h
    have h12 := hl.2.1.1
    refine ⟨x, m, ?_, ?_, h, fun _ => rfl, fun _ _ => rfl, fun _ _ _ _ _ _ _ => rfl⟩
    · rw [e_X1_inherit_94]
      dsimp only [ltt]
      rw [hs.1, if_pos (landB_of hs.2.1), hl.2.1.2.1, if_pos (nI_le (by omega) (by omega))]
    · rw [e_X11_heir_72, hb.2, (bk_ix hb.1).1, if_pos rfl, (bk_ix hb.1).2, hl.2.1.2.2, if_pos (nI_le (by omega) (by omega))]
  | succ d ih =>
    intro i n n' x m h hT hi hn hn' hfree
    obtain ⟨n, rfl⟩ : ∃ k, n = k + 1 := ⟨n - 1, by omega⟩
    obtain ⟨n', rfl⟩ : ∃ k, n' = k + 1 := ⟨n' - 1, by omega⟩
    obtain ⟨-, hs, hb, hl, hw, hd⟩ := id h
    have h8 := hl.1.1
    have h12 := hl.2.1.1
    have hit : i < L.nt := by omega
    have X := e_X1_inherit_94 n (nI p) (nI q) (nI R) (nI i) x
    have M := e_X11_heir_72 n' (nI p) (nI q) (nI R) (nI i) m
    dsimp only [ltt] at X
    rw [hs.1, if_pos (landB_of hs.2.1), hl.2.1.2.1, if_neg (nI_ge hit (by omega)), bears_X hs hl hd hp hit, bit_I hR (by omega), nI_1] at X
    rw [hb.2, (bk_ix hb.1).1, if_pos rfl, (bk_ix hb.1).2, hl.2.1.2.2, if_neg (nI_ge hit (by omega)), hasT_M hl hd (by omega) (by omega), bit_I hR (by omega), nI_1] at M
    dsimp only [Option.bind] at X M
    cases hh : hasT x p i
    · rw [hh, if_pos (by decide)] at X M
      rw [X, M]
      exact ih (i + 1) n n' x m h hT (by omega) (by omega) (by omega) (fun t h1 h2 h3 => hfree t (by omega) h2 h3)
    · rw [hh, if_neg (by decide)] at X M
      obtain ⟨x1, m1, e1, e2, k1, cn, c7, tw, fx, fm⟩ := goB h hp hit hh
      rw [e1] at X
      rw [e2] at M
      dsimp only at X M
      have tt := tw (fun _ => 1)
      rw [nw_1] at tt
      have q1 : ∀ t, hasT x1 q t = hasT x q t := fun t => by rw [hasT, c7 q (fun w => hpq w.symm)]; rfl
      cases hR2 : R.testBit i
      · rw [hR2, if_pos (by decide)] at X
        rw [hR2, if_neg (by decide)] at M
        obtain ⟨x2, m2, e3, e4, k2, cl2, tw2, fx2, fm2⟩ := scatB k1 hit (r := 8) (by omega) (fun k hk => by
          have := List.count_le_length (a := k) (l := L.tn i)
          have w := lsum_ge (f := loN x1) (n := 234) (i := 26 * 8 + k) (by omega)
          have : TW (fun _ => 1) L x1 = lsum (fun _ => 1) (loN x1) 234 + csum (fun t => nw (fun _ => 1) (L.tn t)) L.nt (coatN x1) 8 := rfl
          omega)
        rw [show (8 : Int32) = nI 8 from rfl] at X M
        rw [e3] at X
        rw [e4] at M
        dsimp only at X M
        rw [X, M]
        have twe : ∀ W, TW W L x2 = TW W L x := fun W => by rw [tw2, tw]
        obtain ⟨x', m', f1, f2, k3, tw3, lo3, fr3⟩ := ih (i + 1) n n' x2 m2 k2 (by rw [twe]; exact hT) (by omega) (by omega) (by omega) (fun t h1 h2 h3 => by
          rw [hasT, fx2 7 q (by decide)]
          have := q1 t
          rw [hasT] at this
          rw [this]; exact hfree t (by omega) h2 h3)
        refine ⟨x', m', f1, f2, k3, fun W => by rw [tw3, twe], fun j hj => ?_, fun o k o1 o2 o3 o4 o5 => ?_⟩
        · rw [lo3 j hj, cl2 j (by omega), if_neg (by omega), Nat.add_zero, loN, loN, fx 8 j (by decide) (by decide) (by omega)]
        · rw [fr3 o k o1 o2 o3 o4 o5, fx2 o k o2, fx o k o1 o5 (fun w => o4 w.1)]
      · rw [hR2, if_neg (by decide)] at X
        rw [hR2, if_pos (by decide)] at M
        have hq1 : hasT x1 q i = false := by rw [q1]; exact hfree i (Nat.le_refl _) hit hR2
        obtain ⟨x2, m2, e3, e4, k2, cn2, c72, tw2, fx2, fm2⟩ := comeB k1 hq hit hq1
        rw [e3] at X
        rw [e4] at M
        dsimp only at X M
        rw [X, M]
        have twe : ∀ W, TW W L x2 = TW W L x := fun W => by rw [tw2, tw]
        obtain ⟨x', m', f1, f2, k3, tw3, lo3, fr3⟩ := ih (i + 1) n n' x2 m2 k2 (by rw [twe]; exact hT) (by omega) (by omega) (by omega) (fun t h1 h2 h3 => by
          have e : hasT x2 q t = (coatN x2 q).testBit t := rfl
          rw [e, cn2, Nat.testBit_or, Nat.testBit_two_pow, decide_eq_false (by omega), Bool.or_false]
          exact (q1 t).trans (hfree t (by omega) h2 h3))
        refine ⟨x', m', f1, f2, k3, fun W => by rw [tw3, twe], fun j hj => ?_, fun o k o1 o2 o3 o4 o5 => ?_⟩
        · rw [lo3 j hj, loN, loN, fx2 8 j (by decide) (by decide), fx 8 j (by decide) (by decide) (by omega)]
        · rw [fr3 o k o1 o2 o3 o4 o5, fx2 o k o1 o3, fx o k o1 o5 (fun w => o4 w.1)]
end Heir
