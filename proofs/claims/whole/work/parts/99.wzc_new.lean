/-! ===== the relation behind a land that was told ===== -/
theorem nw_b {W : Nat → Nat} {w : Nat} (hW : ∀ k, k < 26 → W k ≤ w) : ∀ l : List Nat, (∀ c ∈ l, c < 26) → nw W l ≤ l.length * w := by
  intro l
  induction l with
  | nil => intro _; exact Nat.zero_le _
  | cons c l ih =>
    intro h
    have h1 := hW c (h c (List.mem_cons_self ..))
    have h2 := ih (fun d hd => h d (List.mem_cons_of_mem _ hd))
    rw [nw, List.length_cons, Nat.add_mul, Nat.one_mul]
    omega
theorem lsum_b {W f : Nat → Nat} {w : Nat} (hW : ∀ k, k < 26 → W k ≤ w) (h0 : ∀ i, i < 208 → f i = 0) (h1 : ∀ i, i < 26 → f (208 + i) ≤ 99) : ∀ d, d ≤ 26 → lsum W f (208 + d) ≤ d * (w * 99) := by
  intro d
  induction d with
  | zero => intro _; rw [lsum_z h0]; exact Nat.zero_le _
  | succ d ih =>
    intro hd
    have e := ih (by omega)
    have := Nat.mul_le_mul (hW ((208 + d) % 26) (Nat.mod_lt _ (by omega))) (h1 d (by omega))
    rw [show 208 + (d + 1) = 208 + d + 1 from rfl, lsum, Nat.add_mul, Nat.one_mul]
    omega
section Nw
variable {ls ib A B : Nat} {L : LD} {x m x' m' : St}
theorem TW_b {W : Nat → Nat} {w : Nat} (hW : ∀ k, k < 26 → W k ≤ w) (hw : w ≤ 99) (hnt : L.nt ≤ 12) (hn : ∀ t, t < L.nt → (L.tn t).length ≤ 6 ∧ ∀ c ∈ L.tn t, c < 26) (h0 : ∀ i, i < 208 → loN x i = 0) (h1 : ∀ i, i < 26 → loN x (208 + i) ≤ 99) : TW W L x ≤ 3150 * w := by
  have a := lsum_b (f := loN x) hW h0 h1 26 (by omega)
  have b : ∀ t, t < L.nt → nw W (L.tn t) ≤ 6 * w := fun t ht => by
    have := nw_b hW (L.tn t) (hn t ht).2
    have := Nat.mul_le_mul_right w (hn t ht).1
    omega
  have c : ∀ k, bsum (fun t => nw W (L.tn t)) L.nt k ≤ 12 * (6 * w) := fun k => by
    have e1 := bsum_le (fun t => nw W (L.tn t)) L.nt k
    have e2 := bt_le (B := fun t => nw W (L.tn t)) (b := 6 * w) (n := L.nt) b
    have e3 := Nat.mul_le_mul_right (6 * w) hnt
    omega
  have d := bt_le (B := fun p => bsum (fun t => nw W (L.tn t)) L.nt (coatN x p)) (b := 12 * (6 * w)) (n := 8) (fun p _ => c _)
  unfold TW
  rw [csum_b]
  rw [show 208 + 26 = 234 from rfl] at a
  omega
theorem newK (hP : RP ls ib L x m A B) (hA : A ≤ 1600) (hB : B ≤ 1600) (hRA : RelA 0 x' m') (hs : RSt ls x') (hb : RBk ib m') (fx : ∀ o k, ls ≤ o → o < ls + 20 → ¬ (o = ls + 6 ∧ k % 2 = 1) → gI x' o k = gI x o k) (oz : ∀ t, t < L.nt → gI x' (ls + 6) (2 * t + 1) = ozS x (ls + 16) 0 (L.tn t)) (fm : ∀ o k, 2 ≤ o → o ≤ 25 → gI m' o k = gI m o k) (fl : ∀ o k, 2 ≤ o → gL m' o k = gL m o k)
    (s1 : gI x' 6 1 = gI x ls 10 ∧ gI x' 6 2 = 0 ∧ gI x' 6 3 = 0) (s2 : ∀ p, p < 8 → gI x' 7 p = gI x (ls + 18) p) (s3 : ∀ j, j < 208 → gI x' 8 j = 0) (s4 : ∀ j, j < 26 → gI x' 8 (208 + j) = gI x (ls + 17) j) (s5 : ∀ j, j < 96 → gI x' 10 j = gI x ls 10) (s6 : gI x' 13 3 = 0 ∧ gI x' 13 4 = 0 ∧ gI x' 19 3 = 0 ∧ gI x' 19 4 = 0 ∧ gI x' 21 4 = 0)
    (b1 : gI m' 0 52 = gI m 23 ib) (b2 : ∀ p, p < 8 → gI m' 35 p = if p < L.np then gI m 8 (8 * ib + p) else 0) (b3 : ∀ j, j < 96 → gI m' 43 j = gI m 23 ib) (b4 : ∀ j, j < 208 → gI m' 36 j = 0) (b5 : ∀ j, j < 26 → gI m' 36 (208 + j) = gI m 12 (26 * ib + j)) (b6 : gI m' 0 55 = 0 ∧ gI m' 0 56 = 0 ∧ gI m' 0 60 = 0 ∧ gI m' 0 62 = 0 ∧ gI m' 0 64 = 0) : RelF x' m' := by
  obtain ⟨h0, h1, h2, h3, h4, h5, h6, h7, h8, h9⟩ := hP
  have hl := land_o h0.1
  have hib := h0.2.1
  have ozc : ∀ l, ozS x' (ls + 16) 0 l = ozS x (ls + 16) 0 l := ozS_c (fun k => fx _ _ (by omega) (by omega) (by omega))
  have n8 := h1.1.1
  have n12 := h2.1.1
  obtain ⟨y, hy, y1, y2⟩ := h8
  refine K.rel (ld := ls) (bk := ib) (L := L) ⟨⟨0, hRA⟩, hs, hb, ?_, fun i hi => ?_, ?_⟩ ⟨fun p k z1 z2 z3 => ?_, ?_, ?_⟩
  · refine ⟨?_, ?_, ?_, ?_, ?_, fun p hp => ?_, fun t ht => ?_, fun i hi => ?_, fun i hi => ?_, fun k hk => ?_⟩
    · rw [fx _ _ (by omega) (by omega) (by omega), fm _ _ (by omega) (by omega)]; exact h1.1
    · rw [fx _ _ (by omega) (by omega) (by omega), fm _ _ (by omega) (by omega)]; exact h2.1
    · rw [fx _ _ (by omega) (by omega) (by omega), fm _ _ (by omega) (by omega)]; exact h3.1
    · rw [fx _ _ (by omega) (by omega) (by omega), fm _ _ (by omega) (by omega)]; exact h9.1
    · rw [fx _ _ (by omega) (by omega) (by omega), fm _ _ (by omega) (by omega)]; exact h4.1
    · rw [fx (ls + 2) _ (by omega) (by omega) (by omega), fx (ls + 3) _ (by omega) (by omega) (by omega), fx (ls + 3) _ (by omega) (by omega) (by omega), fx (ls + 3) _ (by omega) (by omega) (by omega), fl _ _ (by omega), fm 5 _ (by omega) (by omega), fm 6 _ (by omega) (by omega), fm 7 _ (by omega) (by omega)]; exact h1.2 p hp
    · rw [fx (ls + 5) _ (by omega) (by omega) (by omega), fx (ls + 6) (2 * t) (by omega) (by omega) (by omega), fl _ _ (by omega), fm 11 _ (by omega) (by omega), ozc]
      exact ⟨(h2.2 t ht).1, (h2.2 t ht).2, oz t ht⟩
    · rw [fx (ls + 9) _ (by omega) (by omega) (by omega), fx (ls + 9) _ (by omega) (by omega) (by omega), fm 14 _ (by omega) (by omega), fm 15 _ (by omega) (by omega)]; exact h3.2 i hi
    · rw [fx (ls + 14) _ (by omega) (by omega) (by omega), fx (ls + 15) _ (by omega) (by omega) (by omega), fl _ _ (by omega), fm 22 _ (by omega) (by omega)]; exact h4.2 i hi
    · rw [fx (ls + 16) _ (by omega) (by omega) (by omega), fm 2 _ (by omega) (by omega)]; exact h5 k hk
  · obtain ⟨s, t, a, b, k1, k2, k3, k4, k5, k6, k7, k8, k9, k10, k11, k12⟩ := h9.2.2.2 i hi
    refine ⟨s, t, a, b, k1, k2, by rw [fx (ls + 12) _ (by omega) (by omega) (by omega)]; exact k3, by rw [fx (ls + 12) _ (by omega) (by omega) (by omega)]; exact k4, by rw [fx (ls + 12) _ (by omega) (by omega) (by omega)]; exact k5, by omega, fun k hk => by rw [fx (ls + 19) _ (by omega) (by omega) (by omega)]; exact k7 k hk, by rw [fm 17 _ (by omega) (by omega)]; exact k8, by rw [fm 18 _ (by omega) (by omega)]; exact k9, by rw [fm 19 _ (by omega) (by omega)]; exact k10, by omega, fun k hk => ?_⟩
    rw [fm 24 _ (by omega) (by omega), fm 25 _ (by omega) (by omega)]; exact k12 k hk
  · refine ⟨⟨y, by omega, s1.1.trans y1, b1.trans y2⟩, ⟨0, by omega, s1.2.1, b6.1⟩, ⟨0, by omega, s1.2.2, b6.2.2.1, fun i hi => by omega⟩, fun p hp => ?_, fun i hi => ?_, fun p t hp ht => ⟨y, by omega, (s5 _ (by omega)).trans y1, (b3 _ (by omega)).trans y2⟩, ⟨0, by omega, s6.2.2.2.2, b6.2.1, fun k hk => by omega⟩, ⟨0, 0, by omega, by omega, fun _ => rfl, s6.2.2.2.1, b6.2.2.2.1, s6.2.2.1, fun k _ hk => by omega⟩, ⟨0, 0, by omega, by omega, fun _ => rfl, s6.2.1, b6.2.2.2.2, s6.1, fun k _ hk => by omega⟩⟩
    · by_cases c : p < L.np
      · obtain ⟨q, q1, q2, q3⟩ := h7.1 p c
        exact ⟨q, q1, fun z => by omega, (s2 p hp).trans q2, (b2 p hp).trans ((if_pos c).trans q3)⟩
      · exact ⟨0, Nat.pow_pos (by omega), fun _ => rfl, (s2 p hp).trans (h7.2 p (by omega) hp), (b2 p hp).trans (if_neg c)⟩
    · by_cases c : i < 208
      · exact ⟨0, by omega, s3 i c, b4 i c⟩
      · obtain ⟨q, q1, q2, q3⟩ := h6 (i - 208) (by omega)
        have e1 := s4 (i - 208) (by omega)
        have e2 := b5 (i - 208) (by omega)
        rw [show 208 + (i - 208) = i by omega] at e1 e2
        exact ⟨q, by omega, e1.trans q2, e2.trans q3⟩
  · rw [loN, s3 _ (by omega)]; rfl
  · have := TW_b (W := fun _ => 1) (w := 1) (L := L) (x := x') (fun _ _ => Nat.le_refl _) (by omega) n12 (fun t ht => ⟨(h2.2 t ht).1.2.1, (h2.2 t ht).1.2.2.1⟩) (fun i hi => by rw [loN, s3 i hi]; rfl) (fun i hi => by
      obtain ⟨q, q1, q2, q3⟩ := h6 i hi
      rw [loN, s4 i hi, q2, nI_clamp (by omega)]; omega)
    omega
  · have := TW_b (W := ozN x' ls) (w := 99) (L := L) (x := x') (fun k hk => by
      obtain ⟨q, q1, q2, q3, q4⟩ := h5 k hk
      rw [ozN, fx _ _ (by omega) (by omega) (by omega), q3, nI_clamp (by omega)]; omega) (by omega) n12 (fun t ht => ⟨(h2.2 t ht).1.2.1, (h2.2 t ht).1.2.2.1⟩) (fun i hi => by rw [loN, s3 i hi]; rfl) (fun i hi => by
      obtain ⟨q, q1, q2, q3⟩ := h6 i hi
      rw [loN, s4 i hi, q2, nI_clamp (by omega)]; omega)
    have e1 : rivN x' = 0 := by rw [rivN, s1.2.1]; rfl
    have e2 : bulN x' = 0 := by unfold bulN; rw [s1.2.2]; rfl
    rw [e1, e2]
    omega
end Nw
