/-! ===== a land that was not told: all else stands ===== -/
def UX (ls : Nat) (x x' : St) : Prop := (∀ o k, o ≠ 3 → o ≠ 5 → ¬ (o = 0 ∧ k = 9) → ¬ (ls ≤ o ∧ o < ls + 20 ∧ ¬ ((o = ls + 1 ∨ o = ls + 4 ∨ o = ls + 7 ∨ o = ls + 10 ∨ o = ls + 13) ∧ k < 2)) → gI x' o k = gI x o k) ∧ (∀ o k, o ≠ 5 → gR x' o k = gR x o k) ∧ ∀ o k, gL x' o k = gL x o k
def UM (ib : Nat) (m m' : St) : Prop := (∀ o k, mS o k = false → ¬ (o = 0 ∧ (k = 7 ∨ k = 1)) → ¬ (wd o * ib ≤ k ∧ k < wd o * ib + wd o) → gI m' o k = gI m o k) ∧ ∀ o k, ¬ (o = 0 ∧ k = 7) → ¬ (wd o * ib ≤ k ∧ k < wd o * ib + wd o) → gL m' o k = gL m o k
theorem mS_b {o k : Nat} (h : 2 ≤ o ∧ o ≤ 25) : mS o k = false := by
  cases e : mS o k with
  | false => rfl
  | true =>
    simp [mS] at e
    omega
section Ke
variable {ls ib ld bk n0 : Nat} {L : LD} {x m x' m' : St}
theorem UX.ol (h : UX ls x x') (h1 : isLand ls) (h2 : isLand ld) (h3 : ls ≠ ld) (j k : Nat) (hj : j ≤ 19) : gI x' (ld + j) k = gI x (ld + j) k := by
  have := land_o h1
  have := land_o h2
  exact h.1 _ _ (by omega) (by omega) (by omega) (by omega)
theorem UM.ob (h : UM ib m m') (hib : ib + bk = 1) {o k : Nat} (w : Nat) (hw : wd o = w) (ho : 2 ≤ o ∧ o ≤ 25) (hk : w * bk ≤ k ∧ k < w * bk + w) : gI m' o k = gI m o k := h.1 o k (mS_b ho) (by omega) (by
  rw [hw]
  rcases (by omega : (ib = 0 ∧ bk = 1) ∨ (ib = 1 ∧ bk = 0)) with ⟨rfl, rfl⟩ | ⟨rfl, rfl⟩ <;> omega)
theorem UM.bl (h : UM ib m m') (hib : ib + bk = 1) {o k : Nat} (w : Nat) (hw : wd o = w) (ho : 2 ≤ o ∧ o ≤ 25) (hk : w * bk ≤ k ∧ k < w * bk + w) : gL m' o k = gL m o k := h.2 o k (by omega) (by
  rw [hw]
  rcases (by omega : (ib = 0 ∧ bk = 1) ∨ (ib = 1 ∧ bk = 0)) with ⟨rfl, rfl⟩ | ⟨rfl, rfl⟩ <;> omega)
theorem UM.z (h : UM ib m m') {o k : Nat} (hs : mS o k = false) (hw : wd o = 0) (hk : ¬ (o = 0 ∧ (k = 7 ∨ k = 1))) : gI m' o k = gI m o k := h.1 o k hs hk (by rw [hw]; omega)
/-- what does not depend on the new land -/
theorem RelA.u (h : RelA n0 x m) (hx : UX ls x x') (hm : UM ib m m') (hls : isLand ls) (e9 : gI x' 0 9 = 0) (e1 : gI m' 0 1 = 0) : RelA 0 x' m' := by
  have hl := land_o hls
  have gx : ∀ o k, o < 34 → o ≠ 3 → o ≠ 5 → ¬ (o = 0 ∧ k = 9) → gI x' o k = gI x o k := fun o k z1 z2 z3 z4 => hx.1 o k z2 z3 z4 (by omega)
  obtain ⟨⟨-, -, -, h3⟩, h4, h5, ⟨s, h6, h7, h8⟩, ⟨q, h9, h10, h11, h12⟩⟩ := h
  refine ⟨⟨by omega, e9, e1, fun i hi => ?_⟩, ⟨?_, ?_⟩, fun i hi => ?_, ⟨s, h6, ?_, ?_⟩, ⟨q, h9, ?_, ?_, fun i hi => ?_⟩⟩
  · rw [gx _ _ (by omega) (by omega) (by omega) (by omega), hm.z (o := 1) rfl rfl (by omega)]; exact h3 i hi
  · rw [gx _ _ (by omega) (by omega) (by omega) (by omega), hm.z (o := 0) rfl rfl (by omega)]; exact h4.1
  · rw [gx _ _ (by omega) (by omega) (by omega) (by omega), hm.z (o := 0) rfl rfl (by omega)]; exact h4.2
  · rw [gx _ _ (by omega) (by omega) (by omega) (by omega), hm.z (o := 32) rfl rfl (by omega)]; exact h5 i hi
  · rw [hx.2.2]; exact h7
  · rw [hm.2 0 67 (by omega) (by rw [show wd 0 = 0 from rfl]; omega)]; exact h8
  · rw [gx _ _ (by omega) (by omega) (by omega) (by omega)]; exact h10
  · rw [hm.z (o := 0) rfl rfl (by omega)]; exact h11
  · rw [gx _ _ (by omega) (by omega) (by omega) (by omega), hm.z (o := 45) rfl rfl (by omega)]; exact h12 i hi
theorem RSt.u (h : RSt ld x) (hx : UX (gR x 0 8) x x') : RSt ld x' := by
  obtain ⟨a1, a2, a3, a4, a5, a6, a7, a8⟩ := h
  have hl := land_o a3
  refine ⟨by rw [hx.2.1 _ _ (by omega)]; exact a1, a2, by rw [hx.2.1 _ _ (by omega)]; exact a3, by rw [hx.2.1 _ _ (by omega)]; exact a4, fun r hr => ?_, ?_, ?_, fun k hk => ?_⟩
  · have hr' := roll_o hr
    rw [hx.1 r 0 (by omega) (by omega) (by omega) (by omega), hx.1 r 1 (by omega) (by omega) (by omega) (by omega)]; exact a5 r hr
  · rw [hx.1 13 0 (by omega) (by omega) (by omega) (by omega), hx.1 13 1 (by omega) (by omega) (by omega) (by omega)]; exact a6
  · rw [hx.1 19 0 (by omega) (by omega) (by omega) (by omega), hx.1 19 1 (by omega) (by omega) (by omega) (by omega)]; exact a7
  · rw [hx.1 4 k (by omega) (by omega) (by omega) (by omega)]; exact a8 k hk
theorem keepK (h : K ld bk L x m) (hc : RCon ld L x) (hx : UX (gR x 0 8) x x') (hm : UM ib m m') (hib : ib + bk = 1) (e9 : gI x' 0 9 = 0) (e1 : gI m' 0 1 = 0) : RelF x' m' := by
  obtain ⟨⟨n0, hA⟩, hs, hb, hla, hw, hd⟩ := h
  have hls := hs.2.2.1
  have hne := hs.2.2.2.1
  have hl := land_o hls
  have xl : ∀ j k, j ≤ 19 → gI x' (ld + j) k = gI x (ld + j) k := fun j k hj => hx.ol hls hs.2.1 hne j k hj
  have o1 : ∀ o k, o < 34 → o ≠ 3 → o ≠ 5 → ¬ (o = 0 ∧ k = 9) → gI x' o k = gI x o k := fun o k z1 z2 z3 z4 => hx.1 o k z2 z3 z4 (by omega)
  have ozc : ∀ l, ozS x' (ld + 16) 0 l = ozS x (ld + 16) 0 l := ozS_c (fun k => xl 16 k (by omega))
  refine K.rel (ld := ld) (bk := bk) (L := L) ⟨⟨0, hA.u hx hm hls e9 e1⟩, hs.u hx, ⟨hb.1, by rw [hm.z (o := 0) rfl rfl (by omega)]; exact hb.2⟩, ?_, fun i hi => ?_, ?_⟩ (hc.c (fun k => o1 _ _ (by omega) (by omega) (by omega) (by omega)) (fun k => o1 _ _ (by omega) (by omega) (by omega) (by omega)) (o1 _ _ (by omega) (by omega) (by omega) (by omega)) (o1 _ _ (by omega) (by omega) (by omega) (by omega)) (fun k => o1 _ _ (by omega) (by omega) (by omega) (by omega)) (fun k => xl 16 k (by omega)))
  · obtain ⟨l1, l2, l3, l4, l5, l6, l7, l8, l9, l10⟩ := hla
    have := l1.1
    have := l2.1
    have := l3.1
    have := l5.1
    refine ⟨?_, ?_, ?_, ?_, ?_, fun p hp => ?_, fun t ht => ?_, fun i hi => ?_, fun i hi => ?_, fun k hk => ?_⟩
    · rw [xl 1 _ (by omega), hm.ob hib 1 rfl (by omega) (by omega)]; exact l1
    · rw [xl 4 _ (by omega), hm.ob hib 1 rfl (by omega) (by omega)]; exact l2
    · rw [xl 7 _ (by omega), hm.ob hib 1 rfl (by omega) (by omega)]; exact l3
    · rw [xl 10 _ (by omega), hm.ob hib 1 rfl (by omega) (by omega)]; exact l4
    · rw [xl 13 _ (by omega), hm.ob hib 1 rfl (by omega) (by omega)]; exact l5
    · rw [xl 2 _ (by omega), xl 3 _ (by omega), xl 3 _ (by omega), xl 3 _ (by omega), hm.bl hib 8 rfl (by omega) (by omega), hm.ob (o := 5) hib 8 rfl (by omega) (by omega), hm.ob (o := 6) hib 8 rfl (by omega) (by omega), hm.ob (o := 7) hib 8 rfl (by omega) (by omega)]; exact l6 p hp
    · rw [xl 5 _ (by omega), xl 6 _ (by omega), xl 6 _ (by omega), hm.bl hib 12 rfl (by omega) (by omega), hm.ob (o := 11) hib 12 rfl (by omega) (by omega), ozc]; exact l7 t ht
    · rw [xl 9 _ (by omega), xl 9 _ (by omega), hm.ob (o := 14) hib 6 rfl (by omega) (by omega), hm.ob (o := 15) hib 6 rfl (by omega) (by omega)]; exact l8 i hi
    · rw [xl 14 _ (by omega), xl 15 _ (by omega), hm.bl hib 4 rfl (by omega) (by omega), hm.ob (o := 22) hib 4 rfl (by omega) (by omega)]; exact l9 i hi
    · rw [xl 16 _ (by omega), hm.ob (o := 2) hib 26 rfl (by omega) (by omega)]; exact l10 k hk
  · have hnl := hla.2.2.2.1.1
    obtain ⟨s, t, a, b, h1, h2, h3, h4, h5, h6, h7, h8, h9, h10, h11, h12⟩ := hw i hi
    refine ⟨s, t, a, b, h1, h2, by rw [xl 12 _ (by omega)]; exact h3, by rw [xl 12 _ (by omega)]; exact h4, by rw [xl 12 _ (by omega)]; exact h5, h6, fun k hk => by rw [xl 19 _ (by omega)]; exact h7 k hk, by rw [hm.ob (o := 17) hib 8 rfl (by omega) (by omega)]; exact h8, by rw [hm.ob (o := 18) hib 8 rfl (by omega) (by omega)]; exact h9, by rw [hm.ob (o := 19) hib 8 rfl (by omega) (by omega)]; exact h10, h11, fun k hk => ?_⟩
    have := h12 k hk
    rw [List.length_append] at hk
    rw [hm.ob (o := 24) hib 1600 rfl (by omega) (by omega), hm.ob (o := 25) hib 1600 rfl (by omega) (by omega)]; exact this
  · obtain ⟨d1, d2, d3, d4, d5, d6, d7, d8, d9⟩ := hd
    have o2 : ∀ o k, 6 ≤ o → o < 34 → gI x' o k = gI x o k := fun o k z1 z2 => o1 o k z2 (by omega) (by omega) (by omega)
    refine ⟨?_, ?_, ?_, fun p hp => ?_, fun i hi => ?_, fun p t hp ht => ?_, ?_, ?_, ?_⟩
    · rw [o2 _ _ (by omega) (by omega), hm.z (o := 0) rfl rfl (by omega)]; exact d1
    · rw [o2 _ _ (by omega) (by omega), hm.z (o := 0) rfl rfl (by omega)]; exact d2
    · obtain ⟨c, hc, e1, e2, e3⟩ := d3
      exact ⟨c, hc, by rw [o2 _ _ (by omega) (by omega)]; exact e1, by rw [hm.z (o := 0) rfl rfl (by omega)]; exact e2, fun i hi => by rw [o2 _ _ (by omega) (by omega), hm.z (o := 40) rfl rfl (by omega)]; exact e3 i hi⟩
    · rw [o2 _ _ (by omega) (by omega), hm.z (o := 35) rfl rfl (by omega)]; exact d4 p hp
    · rw [o2 _ _ (by omega) (by omega), hm.z (o := 36) rfl rfl (by omega)]; exact d5 i hi
    · rw [o2 _ _ (by omega) (by omega), hm.z (o := 43) rfl rfl (by omega)]; exact d6 p t hp ht
    · obtain ⟨n, hn, e1, e2, e3⟩ := d7
      exact ⟨n, hn, by rw [o2 _ _ (by omega) (by omega)]; exact e1, by rw [hm.z (o := 0) rfl rfl (by omega)]; exact e2, fun k hk => by rw [o2 23 _ (by omega) (by omega), o2 23 _ (by omega) (by omega), o2 23 _ (by omega) (by omega), hm.z (o := 37) rfl rfl (by omega), hm.z (o := 38) rfl rfl (by omega), hm.z (o := 39) rfl rfl (by omega)]; exact e3 k hk⟩
    · obtain ⟨n, o, e1, e2, e3, e4, e5, e6, e7⟩ := d8
      exact ⟨n, o, e1, e2, e3, by rw [o2 _ _ (by omega) (by omega)]; exact e4, by rw [hm.z (o := 0) rfl rfl (by omega)]; exact e5, by rw [o2 _ _ (by omega) (by omega)]; exact e6, fun k c hk hc => by rw [o2 20 _ (by omega) (by omega), hm.z (o := 41) rfl rfl (by omega)]; exact e7 k c hk hc⟩
    · obtain ⟨n, o, e1, e2, e3, e4, e5, e6, e7⟩ := d9
      exact ⟨n, o, e1, e2, e3, by rw [o2 _ _ (by omega) (by omega)]; exact e4, by rw [hm.z (o := 0) rfl rfl (by omega)]; exact e5, by rw [o2 _ _ (by omega) (by omega)]; exact e6, fun k c hk hc => by rw [o2 14 _ (by omega) (by omega), hm.z (o := 42) rfl rfl (by omega)]; exact e7 k c hk hc⟩
end Ke
