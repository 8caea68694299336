/-! ===== a land that was told: all begins anew ===== -/
section Se
variable {ls ib np : Nat} {x m : St}
theorem settle_X (hls : isLand ls) (x : St) : ∃ x', ((f_X2_settle ls x).bind fun q22 => f_X1_forget q22.2) = some ((), x') ∧ (∀ o k, o ≠ 6 → o ≠ 7 → o ≠ 8 → o ≠ 10 → ¬ ((o = 13 ∨ o = 19) ∧ (k = 3 ∨ k = 4)) → ¬ (o = 21 ∧ k = 4) → gI x' o k = gI x o k) ∧ (gR x' 6 0 = ls ∧ ∀ o k, o ≠ 6 → gR x' o k = gR x o k) ∧ (∀ o k, gL x' o k = gL x o k) ∧ (gI x' 6 1 = gI x ls 10 ∧ gI x' 6 2 = 0 ∧ gI x' 6 3 = 0) ∧ (∀ p, p < 8 → gI x' 7 p = gI x (ls + 18) p) ∧ (∀ j, j < 208 → gI x' 8 j = 0) ∧ (∀ j, j < 26 → gI x' 8 (208 + j) = gI x (ls + 17) j) ∧ (∀ j, j < 96 → gI x' 10 j = gI x ls 10) ∧ (gI x' 13 3 = 0 ∧ gI x' 13 4 = 0 ∧ gI x' 19 3 = 0 ∧ gI x' 19 4 = 0 ∧ gI x' 21 4 = 0) := by
  have hl := land_o hls
  have hlB := landB_of hls
  obtain ⟨s0, hs0⟩ : ∃ s0, s0 = sI (sI (sI (sR x 6 0 ls) 6 1 (gI x ls 10)) 6 2 0) 6 3 0 := ⟨_, rfl⟩
  have r0 : gR s0 6 0 = ls := by rw [hs0]; exact (gR_sR x 6 0 ls 6 0).trans (if_pos ⟨rfl, rfl⟩)
  have r1 : ∀ o k, o ≠ 6 → gR s0 o k = gR x o k := fun o k h => by rw [hs0]; exact (gR_sR x 6 0 ls o k).trans (if_neg (by omega))
  have l0 : ∀ o k, gL s0 o k = gL x o k := fun o k => by rw [hs0]; rfl
  have g0 : ∀ o k, o ≠ 6 → gI s0 o k = gI x o k := fun o k h => by rw [hs0]; exact (ge_n (by omega)).trans ((ge_n (by omega)).trans (ge_n (by omega)))
  have g1 : gI s0 6 1 = gI x ls 10 := by rw [hs0]; exact (ge_n (by omega)).trans ((ge_n (by omega)).trans ge_s)
  have g2 : gI s0 6 2 = 0 := by rw [hs0]; exact (ge_n (by omega)).trans ge_s
  have g3 : gI s0 6 3 = 0 := by rw [hs0]; exact ge_s
  obtain ⟨s1, a1, a2, a3, a4, a5⟩ := fillG (r := 8) (N := 234) rfl (by omega) 0 s0
  obtain ⟨s2, hs2⟩ : ∃ s2, s2 = sCp s1 (ls + 18) 7 0 0 8 := ⟨_, rfl⟩
  obtain ⟨s3, hs3⟩ : ∃ s3, s3 = sCp s2 (ls + 17) 8 0 208 26 := ⟨_, rfl⟩
  have c2 : ∀ o k, o ≠ 7 → gI s2 o k = gI s1 o k := fun o k h => by rw [hs2, gI_sCp, if_neg (by omega)]
  have c2' : ∀ p, p < 8 → gI s2 7 p = gI s1 (ls + 18) p := fun p h => by rw [hs2, gI_sCp, if_pos ⟨rfl, by omega, by omega⟩, show 0 + (p - 0) = p by omega]
  have c3 : ∀ o k, ¬ (o = 8 ∧ 208 ≤ k) → gI s3 o k = gI s2 o k := fun o k h => by rw [hs3, gI_sCp, if_neg (by omega)]
  have c3' : ∀ j, j < 26 → gI s3 8 (208 + j) = gI s2 (ls + 17) j := fun j h => by rw [hs3, gI_sCp, if_pos ⟨rfl, by omega, by omega⟩, show 0 + (208 + j - 208) = j by omega]
  have r3 : ∀ o k, gR s3 o k = gR s0 o k := fun o k => by rw [hs3, gR_sCp, hs2, gR_sCp]; exact a3 o k
  have l3 : ∀ o k, gL s3 o k = gL s0 o k := fun o k => by rw [hs3, gL_sCp, hs2, gL_sCp]; exact a4 o k
  have g31 : gI (sI (sI s3 13 3 0) 13 4 0) 6 1 = gI x ls 10 := (ge_n (by omega)).trans ((ge_n (by omega)).trans ((c3 _ _ (by omega)).trans ((c2 _ _ (by omega)).trans ((a2 _ _ (by omega)).trans g1))))
  obtain ⟨s4, b1, b2, b3, b4, b5⟩ := fillG (r := 10) (N := 96) rfl (by omega) (gI x ls 10) (sI (sI s3 13 3 0) 13 4 0)
  have f4 : ∀ o k, o ≠ 7 → o ≠ 8 → o ≠ 10 → ¬ (o = 13 ∧ (k = 3 ∨ k = 4)) → gI s4 o k = gI s0 o k := fun o k z1 z2 z3 z4 => (b2 o k z3).trans ((ge_n (by omega)).trans ((ge_n (by omega)).trans ((c3 _ _ (by omega)).trans ((c2 _ _ z1).trans (a2 _ _ z2)))))
  have f5 : ∀ o k, ¬ (o = 19 ∧ (k = 3 ∨ k = 4)) → ¬ (o = 21 ∧ k = 4) → gI (sI (sI (sI s4 19 3 0) 19 4 0) 21 4 0) o k = gI s4 o k := fun o k z1 z2 => (ge_n (by omega)).trans ((ge_n (by omega)).trans (ge_n (by omega)))
  refine ⟨sI (sI (sI s4 19 3 0) 19 4 0) 21 4 0, ?_, fun o k z1 z2 z3 z4 z5 z6 => (f5 o k (by omega) z6).trans ((f4 o k z2 z3 z4 (by omega)).trans (g0 o k z1)), ⟨?_, fun o k h => ?_⟩, fun o k => ?_, ⟨?_, ?_, ?_⟩, fun p hp => ?_, fun j hj => ?_, fun j hj => ?_, fun j hj => ?_, ⟨?_, ?_, ?_, ?_, ge_s⟩⟩
  · have X := e_X2_settle ls x
    dsimp only [ltt] at X
    rw [show gR (sR x 6 0 ls) 6 0 = ls from (gR_sR x 6 0 ls 6 0).trans (if_pos ⟨rfl, rfl⟩), if_pos hlB, show gI (sR x 6 0 ls) ls 10 = gI x ls 10 from rfl, ← hs0, a1] at X
    dsimp only [Option.bind] at X
    rw [show gR s1 6 0 = ls from (a3 6 0).trans r0, if_pos hlB, ← hs2, show gR s2 6 0 = ls by rw [hs2, gR_sCp]; exact (a3 6 0).trans r0, if_pos hlB, ← hs3, e_X2_bearAnew, e_X7_clear] at X
    dsimp only [ltt, Option.bind] at X
    rw [g31, b1] at X
    rw [X]
    dsimp only [Option.bind]
    rw [e_X1_forget, e_X7_clear]
    rfl
  · exact (b3 6 0).trans ((r3 6 0).trans r0)
  · exact (b3 o k).trans ((r3 o k).trans (r1 o k h))
  · exact (b4 o k).trans ((l3 o k).trans (l0 o k))
  · exact (f5 _ _ (by omega) (by omega)).trans ((f4 _ _ (by omega) (by omega) (by omega) (by omega)).trans g1)
  · exact (f5 _ _ (by omega) (by omega)).trans ((f4 _ _ (by omega) (by omega) (by omega) (by omega)).trans g2)
  · exact (f5 _ _ (by omega) (by omega)).trans ((f4 _ _ (by omega) (by omega) (by omega) (by omega)).trans g3)
  · exact (f5 _ _ (by omega) (by omega)).trans ((b2 _ _ (by omega)).trans ((ge_n (by omega)).trans ((ge_n (by omega)).trans ((c3 _ _ (by omega)).trans ((c2' p hp).trans ((a2 _ _ (by omega)).trans (g0 _ _ (by omega))))))))
  · exact (f5 _ _ (by omega) (by omega)).trans ((b2 _ _ (by omega)).trans ((ge_n (by omega)).trans ((ge_n (by omega)).trans ((c3 _ _ (by omega)).trans ((c2 _ _ (by omega)).trans (a5 j (by omega)))))))
  · exact (f5 _ _ (by omega) (by omega)).trans ((b2 _ _ (by omega)).trans ((ge_n (by omega)).trans ((ge_n (by omega)).trans ((c3' j hj).trans ((c2 _ _ (by omega)).trans ((a2 _ _ (by omega)).trans (g0 _ _ (by omega))))))))
  · exact (f5 _ _ (by omega) (by omega)).trans (b5 j hj)
  · exact (f5 _ _ (by omega) (by omega)).trans ((b2 _ _ (by omega)).trans ((ge_n (by omega)).trans ge_s))
  · exact (f5 _ _ (by omega) (by omega)).trans ((b2 _ _ (by omega)).trans ge_s)
  · exact (ge_n (by omega)).trans ((ge_n (by omega)).trans ge_s)
  · exact (ge_n (by omega)).trans ge_s
theorem beg60 (k : Int32 → St → Option (Unit × St)) {p : Nat} (hp : p < 8) (σ : St) : ∃ τ, f_X11_begins_60 k FU (nI p) 0 σ = k (nI (p + 1)) τ ∧ (∀ o j, ¬ (o = 43 ∧ 12 * p ≤ j ∧ j < 12 * p + 12) → gI τ o j = gI σ o j) ∧ (∀ o j, gL τ o j = gL σ o j) ∧ ∀ j, j < 12 → gI τ 43 (12 * p + j) = gI σ 0 52 := by
  obtain ⟨τ, hτ, e⟩ := loop_exF (fun n (τ : St) i => f_X11_begins_60 k n (nI p) (nI i) τ) (fun τ => k (nI (p + 1)) τ) 12 (by omega) (fun i τ => (∀ o j, ¬ (o = 43 ∧ 12 * p ≤ j ∧ j < 12 * p + 12) → gI τ o j = gI σ o j) ∧ (∀ o j, gL τ o j = gL σ o j) ∧ ∀ j, j < i → gI τ 43 (12 * p + j) = gI σ 0 52)
    (fun n τ hτ => by rw [e_X11_begins_60, if_pos (by decide), nI_1])
    (fun n τ i hi hτ => by
      obtain ⟨b1, b2, b3⟩ := hτ
      refine ⟨sI τ 43 (12 * p + i) (gI σ 0 52), ?_, fun o j h => (ge_n (by omega)).trans (b1 o j h), b2, fun j hj => ?_⟩
      · rw [e_X11_begins_60, if_neg (show ¬ (12 : Int32) ≤ nI i from nI_ge (b := 12) hi (by omega)), show (12 : Int32) = nI 12 from rfl, pk_mul, nI_add, if_pos (inb_nI (by omega) (by omega)), ix_nI (by omega), nI_1, b1 0 52 (by omega)]
        rfl
      · by_cases c : j = i
        · subst c; exact ge_s
        · exact (ge_n (by omega)).trans (b3 j (by omega))) σ ⟨fun _ _ _ => rfl, fun _ _ => rfl, fun j hj => by omega⟩
  exact ⟨τ, e, hτ⟩
theorem begins_M (hib : ib < 2) (h12 : gI m 0 12 = nI ib) (h3 : gI m 3 ib = nI np) (hnp : np ≤ 8) : ∃ m', f_X11_begins m = some ((), m') ∧ (∀ o k, o ≠ 35 → o ≠ 36 → o ≠ 43 → ¬ (o = 0 ∧ (k = 52 ∨ k = 55 ∨ k = 56 ∨ k = 60 ∨ k = 62 ∨ k = 64)) → gI m' o k = gI m o k) ∧ (∀ o k, gL m' o k = gL m o k) ∧ gI m' 0 52 = gI m 23 ib ∧ (∀ p, p < 8 → gI m' 35 p = if p < np then gI m 8 (8 * ib + p) else 0) ∧ (∀ j, j < 96 → gI m' 43 j = gI m 23 ib) ∧ (∀ j, j < 208 → gI m' 36 j = 0) ∧ (∀ j, j < 26 → gI m' 36 (208 + j) = gI m 12 (26 * ib + j)) ∧ (gI m' 0 55 = 0 ∧ gI m' 0 56 = 0 ∧ gI m' 0 60 = 0 ∧ gI m' 0 62 = 0 ∧ gI m' 0 64 = 0) := by
  -- persons
  obtain ⟨s1, ⟨p1, p2, p3, p4⟩, e1⟩ := loop_exF (fun n (τ : St) i => f_X11_begins_15 n (nI i) τ) (fun τ => f_X11_begins_95 FU (0 : Int32) τ) 8 (by omega) (fun i τ => (∀ o k, o ≠ 35 → o ≠ 43 → gI τ o k = gI (sI m 0 52 (gI m 23 ib)) o k) ∧ (∀ o k, gL τ o k = gL m o k) ∧ (∀ p, p < i → gI τ 35 p = if p < np then gI m 8 (8 * ib + p) else 0) ∧ ∀ j, j < 12 * i → gI τ 43 j = gI m 23 ib)
    (fun n τ hτ => by rw [e_X11_begins_15, if_pos (by decide)])
    (fun n τ i hi hτ => by
      obtain ⟨b1, b2, b3, b4⟩ := hτ
      have g12 : gI τ 0 12 = nI ib := (b1 _ _ (by omega) (by omega)).trans ((ge_n (by omega)).trans h12)
      have g3 : gI τ 3 ib = nI np := (b1 _ _ (by omega) (by omega)).trans ((ge_n (by omega)).trans h3)
      have g8 : gI τ 8 (8 * ib + i) = gI m 8 (8 * ib + i) := (b1 _ _ (by omega) (by omega)).trans (ge_n (by omega))
      have g52 : gI τ 0 52 = gI m 23 ib := (b1 _ _ (by omega) (by omega)).trans ge_s
      have w2 : (8 : Int32) * nI ib + nI i = nI (8 * ib + i) := by rw [show (8 : Int32) = nI 8 from rfl, pk_mul, nI_add]
      obtain ⟨τ', k1, k2, k3, k4⟩ := beg60 (f_X11_begins_15 n) hi (sI τ 35 i (if i < np then gI m 8 (8 * ib + i) else 0))
      refine ⟨τ', ?_, fun o k z1 z2 => (k2 o k (by omega)).trans ((ge_n (by omega)).trans (b1 o k z1 z2)), fun o k => (k3 o k).trans (b2 o k), fun p hp => ?_, fun j hj => ?_⟩
      · rw [e_X11_begins_15, if_neg (show ¬ (8 : Int32) ≤ nI i from nI_ge (b := 8) hi (by omega)), g12, if_pos (bk_ix hib).1, (bk_ix hib).2, g3, w2, if_pos (inb_nI (show i < 8 from hi) (by omega)), if_pos (inb_nI (show 8 * ib + i < 16 by omega) (by omega)), ix_nI (show i < 2 ^ 31 by omega), ix_nI (show 8 * ib + i < 2 ^ 31 by omega), g8]
        dsimp only [ltt]
        by_cases c : i < np
        · rw [if_pos c] at k1
          rw [if_neg (nI_ge c (by omega)), k1, if_pos (inb_nI hi (by omega))]
        · rw [if_neg c] at k1
          rw [if_pos (nI_le (by omega) (by omega)), k1]
      · rw [k2 _ _ (by omega)]
        by_cases c : p = i
        · subst c; exact ge_s
        · exact (ge_n (by omega)).trans (b3 p (by omega))
      · by_cases c : j < 12 * i
        · exact (k2 _ _ (by omega)).trans ((ge_n (by omega)).trans (b4 j c))
        · have := k4 (j - 12 * i) (by omega)
          rw [show 12 * i + (j - 12 * i) = j by omega] at this
          exact this.trans ((ge_n (by omega)).trans g52)) (sI m 0 52 (gI m 23 ib)) ⟨fun _ _ _ _ => rfl, fun _ _ => rfl, fun p hp => by omega, fun j hj => by omega⟩
  -- loose letters
  obtain ⟨s2, ⟨q1, q2, q3⟩, e2⟩ := loop_exF (fun n (τ : St) i => f_X11_begins_95 n (nI i) τ) (fun τ => f_X11_begins_117 FU (0 : Int32) τ) 208 (by omega) (fun i τ => (∀ o k, o ≠ 36 → gI τ o k = gI s1 o k) ∧ (∀ o k, gL τ o k = gL s1 o k) ∧ ∀ j, j < i → gI τ 36 j = 0)
    (fun n τ hτ => by rw [e_X11_begins_95, if_pos (by decide)])
    (fun n τ i hi hτ => by
      obtain ⟨b1, b2, b3⟩ := hτ
      refine ⟨sI τ 36 i 0, ?_, fun o k z => (ge_n (by omega)).trans (b1 o k z), b2, fun j hj => ?_⟩
      · rw [e_X11_begins_95, if_neg (show ¬ (208 : Int32) ≤ nI i from nI_ge (b := 208) hi (by omega)), if_pos (inb_nI (by omega) (by omega)), ix_nI (by omega), nI_1]
        rfl
      · by_cases c : j = i
        · subst c; exact ge_s
        · exact (ge_n (by omega)).trans (b3 j (by omega))) s1 ⟨fun _ _ _ => rfl, fun _ _ => rfl, fun j hj => by omega⟩
  -- the heap
  obtain ⟨s3, ⟨u1, u2, u3, u4⟩, e3⟩ := loop_exF (fun n (τ : St) i => f_X11_begins_117 n (nI i) τ) (fun τ => some ((), sI (sI (sI (sI (sI τ 0 55 0) 0 56 0) 0 60 0) 0 62 0) 0 64 0)) 26 (by omega) (fun i τ => (∀ o k, o ≠ 36 → gI τ o k = gI s2 o k) ∧ (∀ o k, gL τ o k = gL s2 o k) ∧ (∀ j, j < 208 → gI τ 36 j = 0) ∧ ∀ j, j < i → gI τ 36 (208 + j) = gI m 12 (26 * ib + j))
    (fun n τ hτ => by rw [e_X11_begins_117, if_pos (by decide)]; rfl)
    (fun n τ i hi hτ => by
      obtain ⟨b1, b2, b3, b4⟩ := hτ
      have g : ∀ o k, o ≠ 35 → o ≠ 36 → o ≠ 43 → gI τ o k = gI (sI m 0 52 (gI m 23 ib)) o k := fun o k z1 z2 z3 => (b1 o k z2).trans ((q1 o k z2).trans (p1 o k z1 z3))
      have g12 : gI τ 0 12 = nI ib := (g _ _ (by omega) (by omega) (by omega)).trans ((ge_n (by omega)).trans h12)
      have w2 : (26 : Int32) * nI ib + nI i = nI (26 * ib + i) := by rw [show (26 : Int32) = nI 26 from rfl, pk_mul, nI_add]
      refine ⟨sI τ 36 (208 + i) (gI m 12 (26 * ib + i)), ?_, fun o k z => (ge_n (by omega)).trans (b1 o k z), b2, fun j hj => (ge_n (by omega)).trans (b3 j hj), fun j hj => ?_⟩
      · rw [e_X11_begins_117, if_neg (show ¬ (26 : Int32) ≤ nI i from nI_ge (b := 26) hi (by omega)), g12, w2, show (208 : Int32) + nI i = nI (208 + i) from nI_add 208 i, if_pos (inb_nI (show 26 * ib + i < 52 by omega) (by omega)), if_pos (inb_nI (show 208 + i < 234 by omega) (by omega)), ix_nI (show 26 * ib + i < 2 ^ 31 by omega), ix_nI (show 208 + i < 2 ^ 31 by omega), g 12 _ (by omega) (by omega) (by omega), ge_n (by omega), nI_1]
        rfl
      · by_cases c : j = i
        · subst c; exact ge_s
        · exact (ge_n (by omega)).trans (b4 j (by omega))) s2 ⟨fun _ _ _ => rfl, fun _ _ => rfl, q3, fun j hj => by omega⟩
  have gz : ∀ o k, ¬ (o = 0 ∧ (k = 55 ∨ k = 56 ∨ k = 60 ∨ k = 62 ∨ k = 64)) → gI (sI (sI (sI (sI (sI s3 0 55 0) 0 56 0) 0 60 0) 0 62 0) 0 64 0) o k = gI s3 o k := fun o k z => (ge_n (by omega)).trans ((ge_n (by omega)).trans ((ge_n (by omega)).trans ((ge_n (by omega)).trans (ge_n (by omega)))))
  refine ⟨sI (sI (sI (sI (sI s3 0 55 0) 0 56 0) 0 60 0) 0 62 0) 0 64 0, ?_, fun o k z1 z2 z3 z4 => ?_, fun o k => (u2 o k).trans ((q2 o k).trans (p2 o k)), ?_, fun p hp => ?_, fun j hj => ?_, fun j hj => (gz _ _ (by omega)).trans (u3 j hj), fun j hj => (gz _ _ (by omega)).trans (u4 j hj), ⟨?_, ?_, ?_, ?_, ge_s⟩⟩
  · rw [e_X11_begins, h12, if_pos (bk_ix hib).1, (bk_ix hib).2]
    exact e1.trans (e2.trans e3)
  · exact (gz _ _ (by omega)).trans ((u1 o k z2).trans ((q1 o k z2).trans ((p1 o k z1 z3).trans (ge_n (by omega)))))
  · exact (gz _ _ (by omega)).trans ((u1 _ _ (by omega)).trans ((q1 _ _ (by omega)).trans ((p1 _ _ (by omega) (by omega)).trans ge_s)))
  · exact (gz _ _ (by omega)).trans ((u1 _ _ (by omega)).trans ((q1 _ _ (by omega)).trans (p3 p hp)))
  · exact (gz _ _ (by omega)).trans ((u1 _ _ (by omega)).trans ((q1 _ _ (by omega)).trans (p4 j (by omega))))
  · exact (ge_n (by omega)).trans ((ge_n (by omega)).trans ((ge_n (by omega)).trans ((ge_n (by omega)).trans ge_s)))
  · exact (ge_n (by omega)).trans ((ge_n (by omega)).trans ((ge_n (by omega)).trans ge_s))
  · exact (ge_n (by omega)).trans ((ge_n (by omega)).trans ge_s)
  · exact (ge_n (by omega)).trans ge_s
end Se
