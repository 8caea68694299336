/-! ===== calls that read ===== -/
theorem congrB {LW : Nat → Nat → LD → St → St → Prop} (hl : ∀ ld bk L x m x' m', OffX x x' → OffM m m' → isLand ld → bk < 2 → LW ld bk L x m → LW ld bk L x' m') : CongrB (RelB LW) := by
  intro x m x' m' ⟨o1, o2⟩ ⟨p1, p2⟩ ⟨ld, bk, L, hs, hb, hla, hw, hd⟩
  have hld : isLand ld := hs.2.1
  have xl : ∀ j k, j ≤ 19 → gI x' (ld + j) k = gI x (ld + j) k := by
    intro j k hj
    refine o1 _ _ ?_
    rcases hld with rfl | rfl <;> simp [xA] <;> omega
  have gl : ∀ o k, o ≠ 0 → gL m' o k = gL m o k := fun o k h => p2 o k (fun q => h q.1)
  have ozc : ∀ l, ozS x' (ld + 16) 0 l = ozS x (ld + 16) 0 l := by
    intro l
    induction l with
    | nil => rfl
    | cons c l ih => simp only [ozS, ih, xl 16 _ (by omega)]
  refine ⟨ld, bk, L, ?_, ?_, ?_, hl ld bk L x m x' m' ⟨o1, o2⟩ ⟨p1, p2⟩ hld hb.1 hw, ?_⟩
  · obtain ⟨a1, a2, a3, a4, a5, a6, a7, a8⟩ := hs
    refine ⟨by rw [o2]; exact a1, a2, by rw [o2]; exact a3, by rw [o2]; exact a4, fun r hr => ?_, ?_, ?_, fun k hk => by rw [o1 _ _ rfl]; exact a8 k hk⟩
    · have hx : ∀ k, gI x' r k = gI x r k := fun k => o1 _ _ (by
        simp only [isRoll, List.mem_cons, List.not_mem_nil, or_false] at hr
        rcases hr with rfl | rfl | rfl | rfl | rfl | rfl | rfl | rfl | rfl | rfl | rfl <;> rfl)
      rw [hx, hx]; exact a5 r hr
    · rw [o1 13 0 rfl, o1 13 1 rfl]; exact a6
    · rw [o1 19 0 rfl, o1 19 1 rfl]; exact a7
  · exact ⟨hb.1, by rw [p1 _ _ rfl]; exact hb.2⟩
  · obtain ⟨l1, l2, l3, l4, l5, l6, l7, l8, l9, l10⟩ := hla
    refine ⟨?_, ?_, ?_, ?_, ?_, fun p hp => ?_, fun t ht => ?_, fun i hi => ?_, fun i hi => ?_, fun k hk => ?_⟩
    · rw [xl 1 _ (by omega), p1 _ _ rfl]; exact l1
    · rw [xl 4 _ (by omega), p1 _ _ rfl]; exact l2
    · rw [xl 7 _ (by omega), p1 _ _ rfl]; exact l3
    · rw [xl 10 _ (by omega), p1 _ _ rfl]; exact l4
    · rw [xl 13 _ (by omega), p1 _ _ rfl]; exact l5
    · rw [xl 2 _ (by omega), xl 3 _ (by omega), xl 3 _ (by omega), xl 3 _ (by omega), gl _ _ (by omega), p1 _ _ rfl, p1 _ _ rfl, p1 _ _ rfl]; exact l6 p hp
    · rw [xl 5 _ (by omega), xl 6 _ (by omega), xl 6 _ (by omega), gl _ _ (by omega), p1 _ _ rfl, ozc]; exact l7 t ht
    · rw [xl 9 _ (by omega), xl 9 _ (by omega), p1 _ _ rfl, p1 _ _ rfl]; exact l8 i hi
    · rw [xl 14 _ (by omega), xl 15 _ (by omega), gl _ _ (by omega), p1 _ _ rfl]; exact l9 i hi
    · rw [xl 16 _ (by omega), p1 _ _ rfl]; exact l10 k hk
  · obtain ⟨d1, d2, d3, d4, d5, d6, d7, d8, d9⟩ := hd
    refine ⟨?_, ?_, ?_, fun p hp => ?_, fun i hi => ?_, fun p t hp ht => ?_, ?_, ?_, ?_⟩
    · rw [o1 _ _ rfl, p1 _ _ rfl]; exact d1
    · rw [o1 _ _ rfl, p1 _ _ rfl]; exact d2
    · obtain ⟨c, hc, e1, e2, e3⟩ := d3
      exact ⟨c, hc, by rw [o1 _ _ rfl]; exact e1, by rw [p1 _ _ rfl]; exact e2, fun i hi => by rw [o1 _ _ rfl, p1 _ _ rfl]; exact e3 i hi⟩
    · rw [o1 _ _ rfl, p1 _ _ rfl]; exact d4 p hp
    · rw [o1 _ _ rfl, p1 _ _ rfl]; exact d5 i hi
    · rw [o1 _ _ rfl, p1 _ _ rfl]; exact d6 p t hp ht
    · obtain ⟨n, hn, e1, e2, e3⟩ := d7
      exact ⟨n, hn, by rw [o1 _ _ rfl]; exact e1, by rw [p1 _ _ rfl]; exact e2, fun k hk => by rw [o1 23 _ rfl, o1 23 _ rfl, o1 23 _ rfl, p1 37 _ rfl, p1 38 _ rfl, p1 39 _ rfl]; exact e3 k hk⟩
    · obtain ⟨n, o, e1, e2, e3, e4, e5, e6, e7⟩ := d8
      exact ⟨n, o, e1, e2, e3, by rw [o1 _ _ rfl]; exact e4, by rw [p1 _ _ rfl]; exact e5, by rw [o1 _ _ rfl]; exact e6, fun k c hk hc => by rw [o1 20 _ rfl, p1 41 _ rfl]; exact e7 k c hk hc⟩
    · obtain ⟨n, o, e1, e2, e3, e4, e5, e6, e7⟩ := d9
      exact ⟨n, o, e1, e2, e3, by rw [o1 _ _ rfl]; exact e4, by rw [p1 _ _ rfl]; exact e5, by rw [o1 _ _ rfl]; exact e6, fun k c hk hc => by rw [o1 14 _ rfl, p1 42 _ rfl]; exact e7 k c hk hc⟩
theorem step25 (LW : Nat → Nat → LD → St → St → Prop) : Step_25 (RelOf (RelB LW)) := by
  intro a b x m h
  obtain ⟨hA, ld, bk, L, s1, hb, hla, hw, d1, d2, d3, d4, d5, d6, d7, d8, d9⟩ := id h
  obtain ⟨n, o, hn, -, -, -, s2, -⟩ := id d9
  rw [e_X10_span, e_X11_span, s2, is_M (by omega)]
  rcases ring_X d9 rfl rfl s1.2.2.2.2.2.1.1 s1.2.2.2.2.2.1.2 (by omega) (by omega) a b with ⟨i1, i2, k, c, hk, hc, rfl, rfl, e⟩ | ⟨hno, e⟩
  · rw [s2, nI_clamp (by omega)] at i1 hk
    refine ⟨_, x, m, by rw [e]; rfl, ?_, h⟩
    dsimp only [Option.bind]
    rw [i1, if_neg (by decide), show (3 : Int32) = nI 4 - 1 by decide, is_M (by omega), i2]
    dsimp only
    rw [if_neg (by decide), show (4 : Int32) = nI 4 from rfl, pk_mul, nI_add, if_pos (inb_nI (by omega) (by omega)), ix_nI (by omega)]
  · rw [s2, nI_clamp (by omega)] at hno
    refine ⟨-1, x, m, by rw [e]; rfl, ?_, h⟩
    dsimp only [Option.bind]
    rcases hno with q | q
    · rw [q, if_pos (by decide)]
    · cases hq : inb a n
      · rw [if_pos (by decide)]
      · rw [if_neg (by decide), show (3 : Int32) = nI 4 - 1 by decide, is_M (by omega), q]
        dsimp only
        rw [if_pos (by decide)]
theorem step26 (LW : Nat → Nat → LD → St → St → Prop) : Step_26 (RelOf (RelB LW)) := by
  intro a b x m h
  obtain ⟨hA, ld, bk, L, s1, hb, hla, hw, d1, d2, d3, d4, d5, d6, d7, d8, d9⟩ := id h
  obtain ⟨n, o, hn, -, -, -, s2, -⟩ := id d8
  rw [e_X10_moved, e_X11_moved, s2, is_M (by omega)]
  rcases ring_X d8 rfl rfl s1.2.2.2.2.2.2.1.1 s1.2.2.2.2.2.2.1.2 (by omega) (by omega) a b with ⟨i1, i2, k, c, hk, hc, rfl, rfl, e⟩ | ⟨hno, e⟩
  · rw [s2, nI_clamp (by omega)] at i1 hk
    refine ⟨_, x, m, by rw [e]; rfl, ?_, h⟩
    dsimp only [Option.bind]
    rw [i1, if_neg (by decide), show (4 : Int32) = nI 5 - 1 by decide, is_M (by omega), i2]
    dsimp only
    rw [if_neg (by decide), show (5 : Int32) = nI 5 from rfl, pk_mul, nI_add, if_pos (inb_nI (by omega) (by omega)), ix_nI (by omega)]
  · rw [s2, nI_clamp (by omega)] at hno
    refine ⟨-1, x, m, by rw [e]; rfl, ?_, h⟩
    dsimp only [Option.bind]
    rcases hno with q | q
    · rw [q, if_pos (by decide)]
    · cases hq : inb a n
      · rw [if_pos (by decide)]
      · rw [if_neg (by decide), show (4 : Int32) = nI 5 - 1 by decide, is_M (by omega), q]
        dsimp only
        rw [if_pos (by decide)]
-- letters
theorem letter_cases (a : Int32) (x m : St) : (∃ k, k < 26 ∧ a = nI (97 + k) ∧ f_X10_letterIndex a x = some (nI k, x) ∧ f_X11_isLetterCode a m = some (1, m)) ∨ (f_X10_letterIndex a x = some (-1, x) ∧ f_X11_isLetterCode a m = some (0, m)) := by
  rw [e_X10_letterIndex, e_X11_isLetterCode, e_X11_is]
  dsimp only [ltt]
  by_cases c0 : a < 97
  · exact Or.inr ⟨by rw [if_pos c0], by rw [if_pos c0]; rfl⟩
  · have cp : ¬ a < 0 := fun q => c0 (Int32.lt_trans q (by decide))
    obtain ⟨j, hj, rfl⟩ := nI_of cp
    have hj97 : 97 ≤ j := by
      rcases Nat.lt_or_ge j 97 with q | q
      · exact absurd (nI_lt (b := 97) q (by omega)) c0
      · exact q
    have e : nI j - 97 = nI (j - 97) := pk_sub (b := 97) hj97
    rw [if_neg c0, if_neg c0, e]
    by_cases c1 : j - 97 < 26
    · refine Or.inl ⟨j - 97, c1, by rw [show 97 + (j - 97) = j by omega], by rw [if_pos (show nI (j - 97) < (26 : Int32) from nI_lt (b := 26) c1 (by omega))], ?_⟩
      rw [if_neg (show ¬ (122 : Int32) < nI j from nI_nlt (a := 122) (by omega) (by omega))]
      rfl
    · refine Or.inr ⟨by rw [if_neg (show ¬ nI (j - 97) < (26 : Int32) from nI_nlt (b := 26) (by omega) (by omega))], ?_⟩
      rw [if_pos (show (122 : Int32) < nI j from nI_lt (a := 122) (by omega) hj)]
      rfl
theorem ouncesOf_X {ld k : Nat} (hk : k < 26) (σ : St) : f_X4_ouncesOf ld (nI k) σ = some (gI σ (ld + 16) k, σ) := by
  rw [e_X4_ouncesOf, if_neg (nI_pos (by omega)), if_pos (show nI k < (26 : Int32) from nI_lt (b := 26) hk (by omega)), if_pos (inb_nI hk (by omega)), ix_nI (by omega)]
theorem weight_M {bk k : Nat} {m : St} (hb : RBk bk m) (hk : k < 26) : f_X11_weight (nI k) m = some (gI m 2 (26 * bk + k), m) := by
  have h2 := hb.1
  rw [e_X11_weight, hb.2, show (26 : Int32) = nI 26 from rfl, pk_mul, nI_add, if_pos (inb_nI (by omega) (by omega)), ix_nI (by omega)]
theorem step6 (LW : Nat → Nat → LD → St → St → Prop) : Step_6 (RelOf (RelB LW)) := by
  intro a x m h
  obtain ⟨hA, ld, bk, L, s1, hb, hla, hw, hd⟩ := id h
  rw [e_X10_ounces, e_X11_ounces]
  dsimp only [ltt]
  rw [s1.1, if_pos (landB_of s1.2.1)]
  rcases letter_cases a x m with ⟨k, hk, rfl, e1, e2⟩ | ⟨e1, e2⟩
  · obtain ⟨o, -, -, g1, g2⟩ := hla.2.2.2.2.2.2.2.2.2 k hk
    rw [e1, e2]
    dsimp only [Option.bind]
    have e : nI (97 + k) - 97 = nI k := by
      have := pk_sub (a := 97 + k) (b := 97) (by omega)
      rw [show 97 + k - 97 = k by omega] at this
      exact this
    rw [if_neg (by decide), ouncesOf_X hk, e, weight_M hb hk, g1, g2]
    exact ⟨_, x, m, rfl, rfl, h⟩
  · rw [e1, e2]
    dsimp only [Option.bind]
    rw [e_X4_ouncesOf, if_pos (by decide), if_pos rfl]
    exact ⟨_, x, m, rfl, rfl, h⟩
