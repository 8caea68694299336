/-! ===== cells that no call reads before it writes them ===== -/
def xS (o : Nat) : Bool := decide (o = 3) || decide (o = 5) || decide (o = 11) || decide (o = 12) || decide (o = 15) || decide (o = 16) || decide (o = 17) || (decide (24 ≤ o) && decide (o ≤ 31))
def mS (o k : Nat) : Bool := (decide (o = 0) && (decide (k = 2) || decide (k = 3) || decide (k = 4) || decide (k = 5) || decide (k = 6) || decide (k = 8) || decide (k = 9) || decide (k = 37) || decide (k = 38) || decide (k = 44) || decide (k = 45) || decide (k = 47) || decide (k = 48) || decide (k = 68) || decide (k = 69))) || (decide (26 ≤ o) && decide (o ≤ 31)) || decide (o = 33) || decide (o = 34) || decide (o = 44)
def ScX (x x' : St) : Prop := (∀ o k, xS o = false → gI x' o k = gI x o k) ∧ (∀ o k, ¬ o = 5 → gR x' o k = gR x o k) ∧ gL x' 18 4 = gL x 18 4
def ScM (m m' : St) : Prop := (∀ o k, mS o k = false → gI m' o k = gI m o k) ∧ ∀ o k, (¬ o = 33 ∧ ¬ (o = 0 ∧ k = 7)) → gL m' o k = gL m o k
theorem ScX.rf (x : St) : ScX x x := ⟨fun _ _ _ => rfl, fun _ _ _ => rfl, rfl⟩
theorem ScM.rf (m : St) : ScM m m := ⟨fun _ _ _ => rfl, fun _ _ _ => rfl⟩
theorem ScX.tr {x y z : St} (h : ScX x y) (g : ScX y z) : ScX x z := ⟨fun o k e => (g.1 o k e).trans (h.1 o k e), fun o k e => (g.2.1 o k e).trans (h.2.1 o k e), g.2.2.trans h.2.2⟩
theorem ScM.tr {x y z : St} (h : ScM x y) (g : ScM y z) : ScM x z := ⟨fun o k e => (g.1 o k e).trans (h.1 o k e), fun o k e => (g.2 o k e).trans (h.2 o k e)⟩
theorem ScX.sI {x : St} {o k : Nat} {v : Int32} (h : xS o = true) : ScX x (sI x o k v) := by
  refine ⟨fun a b e => ?_, fun _ _ _ => rfl, rfl⟩
  rw [gI_sI, if_neg]
  rintro ⟨rfl, rfl⟩
  rw [h] at e
  cases e
theorem ScM.sI {x : St} {o k : Nat} {v : Int32} (h : mS o k = true) : ScM x (sI x o k v) := by
  refine ⟨fun a b e => ?_, fun _ _ _ => rfl⟩
  rw [gI_sI, if_neg]
  rintro ⟨rfl, rfl⟩
  rw [h] at e
  cases e
theorem ScM.sL {x : St} {o k : Nat} {v : Int64} (h : o = 33 ∨ (o = 0 ∧ k = 7)) : ScM x (sL x o k v) := by
  refine ⟨fun _ _ _ => rfl, fun a b e => ?_⟩
  rw [gL_sL, if_neg]
  rintro ⟨rfl, rfl⟩
  rcases h with h | h
  · exact e.1 h
  · exact e.2 h
theorem ScX.sL {x : St} {o k : Nat} {v : Int64} (h : ¬ (o = 18 ∧ k = 4)) : ScX x (sL x o k v) := by
  refine ⟨fun _ _ _ => rfl, fun _ _ _ => rfl, ?_⟩
  rw [gL_sL, if_neg]
  rintro ⟨rfl, rfl⟩
  exact h ⟨rfl, rfl⟩
def CongrL (LW : Nat → Nat → LD → St → St → Prop) : Prop := ∀ ld bk L x m x' m', ScX x x' → ScM m m' → isLand ld → bk < 2 → LW ld bk L x m → LW ld bk L x' m'
theorem scrB {LW : Nat → Nat → LD → St → St → Prop} (hl : CongrL LW) {x m x' m' : St} (hx : ScX x x') (hm : ScM m m') (h : RelB LW x m) : RelB LW x' m' := by
  obtain ⟨ld, bk, L, hs, hb, hla, hw, hd⟩ := h
  have o1 := hx.1
  have o2 := hx.2.1
  have p1 := hm.1
  have p2 := hm.2
  have hld : isLand ld := hs.2.1
  have xl : ∀ j k, j ≤ 19 → gI x' (ld + j) k = gI x (ld + j) k := by
    intro j k hj
    refine o1 _ _ ?_
    rcases hld with rfl | rfl <;> simp [xS] <;> omega
  have gl : ∀ o k, (¬ o = 33 ∧ ¬ (o = 0 ∧ k = 7)) → gL m' o k = gL m o k := fun o k h => p2 o k h
  have ozc : ∀ l, ozS x' (ld + 16) 0 l = ozS x (ld + 16) 0 l := by
    intro l
    induction l with
    | nil => rfl
    | cons c l ih => simp only [ozS, ih, xl 16 _ (by omega)]
  refine ⟨ld, bk, L, ?_, ?_, ?_, hl ld bk L x m x' m' hx hm hld hb.1 hw, ?_⟩
  · obtain ⟨a1, a2, a3, a4, a5, a6, a7, a8⟩ := hs
    refine ⟨by rw [o2 _ _ (by decide)]; exact a1, a2, by rw [o2 _ _ (by decide)]; exact a3, by rw [o2 _ _ (by decide)]; exact a4, fun r hr => ?_, ?_, ?_, fun k hk => by rw [o1 _ _ rfl]; exact a8 k hk⟩
    · have hx : ∀ k, gI x' r k = gI x r k := fun k => o1 _ _ (by
        simp only [isRoll, List.mem_cons, List.not_mem_nil, or_false] at hr
        rcases hr with rfl | rfl | rfl | rfl | rfl | rfl | rfl | rfl | rfl | rfl | rfl <;> rfl)
      rw [hx, hx]; exact a5 r hr
    · rw [o1 13 0 rfl, o1 13 1 rfl]; exact a6
    · rw [o1 19 0 rfl, o1 19 1 rfl]; exact a7
  · exact ⟨hb.1, by rw [p1 _ _ rfl]; exact hb.2⟩
  · obtain ⟨l1, l2, l3, l4, l5, l6, l7, l8, l9, l10⟩ := hla
    refine ⟨?_, ?_, ?_, ?_, ?_, fun p hp => ?_, fun t ht => ?_, fun i hi => ?_, fun i hi => ?_, fun k hk => ?_⟩
    · rw [xl 1 _ (by omega), p1 _ _ rfl]; exact l1
    · rw [xl 4 _ (by omega), p1 _ _ rfl]; exact l2
    · rw [xl 7 _ (by omega), p1 _ _ rfl]; exact l3
    · rw [xl 10 _ (by omega), p1 _ _ rfl]; exact l4
    · rw [xl 13 _ (by omega), p1 _ _ rfl]; exact l5
    · rw [xl 2 _ (by omega), xl 3 _ (by omega), xl 3 _ (by omega), xl 3 _ (by omega), gl _ _ (by omega), p1 _ _ rfl, p1 _ _ rfl, p1 _ _ rfl]; exact l6 p hp
    · rw [xl 5 _ (by omega), xl 6 _ (by omega), xl 6 _ (by omega), gl _ _ (by omega), p1 _ _ rfl, ozc]; exact l7 t ht
    · rw [xl 9 _ (by omega), xl 9 _ (by omega), p1 _ _ rfl, p1 _ _ rfl]; exact l8 i hi
    · rw [xl 14 _ (by omega), xl 15 _ (by omega), gl _ _ (by omega), p1 _ _ rfl]; exact l9 i hi
    · rw [xl 16 _ (by omega), p1 _ _ rfl]; exact l10 k hk
  · obtain ⟨d1, d2, d3, d4, d5, d6, d7, d8, d9⟩ := hd
    refine ⟨?_, ?_, ?_, fun p hp => ?_, fun i hi => ?_, fun p t hp ht => ?_, ?_, ?_, ?_⟩
    · rw [o1 _ _ rfl, p1 _ _ rfl]; exact d1
    · rw [o1 _ _ rfl, p1 _ _ rfl]; exact d2
    · obtain ⟨c, hc, e1, e2, e3⟩ := d3
      exact ⟨c, hc, by rw [o1 _ _ rfl]; exact e1, by rw [p1 _ _ rfl]; exact e2, fun i hi => by rw [o1 _ _ rfl, p1 _ _ rfl]; exact e3 i hi⟩
    · rw [o1 _ _ rfl, p1 _ _ rfl]; exact d4 p hp
    · rw [o1 _ _ rfl, p1 _ _ rfl]; exact d5 i hi
    · rw [o1 _ _ rfl, p1 _ _ rfl]; exact d6 p t hp ht
    · obtain ⟨n, hn, e1, e2, e3⟩ := d7
      exact ⟨n, hn, by rw [o1 _ _ rfl]; exact e1, by rw [p1 _ _ rfl]; exact e2, fun k hk => by rw [o1 23 _ rfl, o1 23 _ rfl, o1 23 _ rfl, p1 37 _ rfl, p1 38 _ rfl, p1 39 _ rfl]; exact e3 k hk⟩
    · obtain ⟨n, o, e1, e2, e3, e4, e5, e6, e7⟩ := d8
      exact ⟨n, o, e1, e2, e3, by rw [o1 _ _ rfl]; exact e4, by rw [p1 _ _ rfl]; exact e5, by rw [o1 _ _ rfl]; exact e6, fun k c hk hc => by rw [o1 20 _ rfl, p1 41 _ rfl]; exact e7 k c hk hc⟩
    · obtain ⟨n, o, e1, e2, e3, e4, e5, e6, e7⟩ := d9
      exact ⟨n, o, e1, e2, e3, by rw [o1 _ _ rfl]; exact e4, by rw [p1 _ _ rfl]; exact e5, by rw [o1 _ _ rfl]; exact e6, fun k c hk hc => by rw [o1 14 _ rfl, p1 42 _ rfl]; exact e7 k c hk hc⟩
theorem scrA {n : Nat} {x m x' m' : St} (hx : ScX x x') (hm : ScM m m') (h : RelA n x m) : RelA n x' m' := by
  have o1 := hx.1
  have p1 := hm.1
  obtain ⟨⟨a1, a2, a3, a4⟩, ⟨b1, b2⟩, c, ⟨s, d1, d2, d3⟩, k, e1, e2, e3, e4⟩ := h
  refine ⟨⟨a1, ?_, ?_, fun i hi => ?_⟩, ⟨?_, ?_⟩, fun i hi => ?_, ⟨s, d1, ?_, ?_⟩, k, e1, ?_, ?_, fun i hi => ?_⟩
  · rw [o1 _ _ rfl]; exact a2
  · rw [p1 _ _ rfl]; exact a3
  · rw [o1 _ _ rfl, p1 _ _ rfl]; exact a4 i hi
  · rw [o1 _ _ rfl, p1 _ _ rfl]; exact b1
  · rw [o1 _ _ rfl, p1 _ _ rfl]; exact b2
  · rw [o1 _ _ rfl, p1 _ _ rfl]; exact c i hi
  · rw [hx.2.2]; exact d2
  · rw [hm.2 0 67 (by decide)]; exact d3
  · rw [o1 _ _ rfl]; exact e2
  · rw [p1 _ _ rfl]; exact e3
  · rw [o1 _ _ rfl, p1 _ _ rfl]; exact e4 i hi
theorem scr {LW : Nat → Nat → LD → St → St → Prop} (hl : CongrL LW) {x m x' m' : St} (hx : ScX x x') (hm : ScM m m') (h : RelOf (RelB LW) x m) : RelOf (RelB LW) x' m' := by
  obtain ⟨⟨n, ha⟩, hb⟩ := h
  exact ⟨⟨n, scrA hx hm ha⟩, scrB hl hx hm hb⟩
