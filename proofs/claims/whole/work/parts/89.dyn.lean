/-! ===== acts: cells that they change ===== -/
def dX (o k : Nat) : Bool := xS o || (decide (o = 6) && (decide (k = 1) || decide (k = 2) || decide (k = 3))) || decide (o = 7) || decide (o = 8) || decide (o = 9) || decide (o = 10) || (decide (o = 13) && (decide (k = 3) || decide (k = 4))) || decide (o = 14) || (decide (o = 19) && (decide (k = 3) || decide (k = 4))) || decide (o = 20) || (decide (o = 21) && decide (k = 4)) || decide (o = 22) || decide (o = 23)
def dM (o k : Nat) : Bool := mS o k || (decide (o = 0) && (decide (k = 52) || decide (k = 55) || decide (k = 56) || decide (k = 60) || decide (k = 62) || decide (k = 64))) || (decide (35 ≤ o) && decide (o ≤ 43))
def DyX (x x' : St) : Prop := (∀ o k, dX o k = false → gI x' o k = gI x o k) ∧ (∀ o k, ¬ o = 5 → gR x' o k = gR x o k) ∧ gL x' 18 4 = gL x 18 4
def DyM (m m' : St) : Prop := (∀ o k, dM o k = false → gI m' o k = gI m o k) ∧ ∀ o k, (¬ o = 33 ∧ ¬ (o = 0 ∧ k = 7)) → gL m' o k = gL m o k
theorem DyX.rf (x : St) : DyX x x := ⟨fun _ _ _ => rfl, fun _ _ _ => rfl, rfl⟩
theorem DyM.rf (m : St) : DyM m m := ⟨fun _ _ _ => rfl, fun _ _ _ => rfl⟩
theorem DyX.tr {x y z : St} (h : DyX x y) (g : DyX y z) : DyX x z := ⟨fun o k e => (g.1 o k e).trans (h.1 o k e), fun o k e => (g.2.1 o k e).trans (h.2.1 o k e), g.2.2.trans h.2.2⟩
theorem DyM.tr {x y z : St} (h : DyM x y) (g : DyM y z) : DyM x z := ⟨fun o k e => (g.1 o k e).trans (h.1 o k e), fun o k e => (g.2 o k e).trans (h.2 o k e)⟩
theorem DyX.sI {x : St} {o k : Nat} {v : Int32} (h : dX o k = true) : DyX x (sI x o k v) := by
  refine ⟨fun a b e => ?_, fun _ _ _ => rfl, rfl⟩
  rw [gI_sI, if_neg]
  rintro ⟨rfl, rfl⟩
  rw [h] at e
  cases e
theorem DyM.sI {x : St} {o k : Nat} {v : Int32} (h : dM o k = true) : DyM x (sI x o k v) := by
  refine ⟨fun a b e => ?_, fun _ _ _ => rfl⟩
  rw [gI_sI, if_neg]
  rintro ⟨rfl, rfl⟩
  rw [h] at e
  cases e
theorem ScX.dy {x x' : St} (h : ScX x x') : DyX x x' := ⟨fun o k e => h.1 o k (by
  unfold dX at e
  simp only [Bool.or_eq_false_iff] at e
  exact e.1.1.1.1.1.1.1.1.1.1.1.1), h.2.1, h.2.2⟩
theorem ScM.dy {x x' : St} (h : ScM x x') : DyM x x' := ⟨fun o k e => h.1 o k (by
  unfold dM at e
  simp only [Bool.or_eq_false_iff] at e
  exact e.1.1), h.2⟩
theorem stat {ld bk : Nat} {L : LD} {x m x' m' : St} (hx : DyX x x') (hm : DyM m m') (hs : RSt ld x) (hb : RBk bk m) (hla : RLa ld bk L x m) (hw : LW ld bk L x m) : RSt ld x' ∧ RBk bk m' ∧ RLa ld bk L x' m' ∧ LW ld bk L x' m' := by
  have o1 := hx.1
  have o2 := hx.2.1
  have p1 := hm.1
  have hld : isLand ld := hs.2.1
  have xl : ∀ j k, j ≤ 19 → gI x' (ld + j) k = gI x (ld + j) k := by
    intro j k hj
    refine o1 _ _ ?_
    rcases hld with rfl | rfl <;> simp [dX, xS] <;> omega
  have gl : ∀ o k, (¬ o = 33 ∧ ¬ (o = 0 ∧ k = 7)) → gL m' o k = gL m o k := fun o k h => hm.2 o k h
  have pl : ∀ o k, 1 ≤ o → o ≤ 25 → gI m' o k = gI m o k := by
    intro o k h1 h2
    refine p1 _ _ ?_
    simp [dM, mS]
    omega
  have ozc : ∀ l, ozS x' (ld + 16) 0 l = ozS x (ld + 16) 0 l := by
    intro l
    induction l with
    | nil => rfl
    | cons c l ih => simp only [ozS, ih, xl 16 _ (by omega)]
  refine ⟨?_, ?_, ?_, ?_⟩
  · obtain ⟨a1, a2, a3, a4, a5, a6, a7, a8⟩ := hs
    refine ⟨by rw [o2 _ _ (by decide)]; exact a1, a2, by rw [o2 _ _ (by decide)]; exact a3, by rw [o2 _ _ (by decide)]; exact a4, fun r hr => ?_, ?_, ?_, fun k hk => by rw [o1 _ _ rfl]; exact a8 k hk⟩
    · have hx : ∀ k, k < 2 → gI x' r k = gI x r k := fun k hk => o1 _ _ (by
        have : k = 0 ∨ k = 1 := by omega
        simp only [isRoll, List.mem_cons, List.not_mem_nil, or_false] at hr
        rcases this with rfl | rfl <;> rcases hr with rfl | rfl | rfl | rfl | rfl | rfl | rfl | rfl | rfl | rfl | rfl <;> rfl)
      rw [hx 0 (by omega), hx 1 (by omega)]; exact a5 r hr
    · rw [o1 13 0 rfl, o1 13 1 rfl]; exact a6
    · rw [o1 19 0 rfl, o1 19 1 rfl]; exact a7
  · exact ⟨hb.1, by rw [p1 _ _ rfl]; exact hb.2⟩
  · obtain ⟨l1, l2, l3, l4, l5, l6, l7, l8, l9, l10⟩ := hla
    refine ⟨?_, ?_, ?_, ?_, ?_, fun p hp => ?_, fun t ht => ?_, fun i hi => ?_, fun i hi => ?_, fun k hk => ?_⟩
    · rw [xl 1 _ (by omega), pl _ _ (by omega) (by omega)]; exact l1
    · rw [xl 4 _ (by omega), pl _ _ (by omega) (by omega)]; exact l2
    · rw [xl 7 _ (by omega), pl _ _ (by omega) (by omega)]; exact l3
    · rw [xl 10 _ (by omega), pl _ _ (by omega) (by omega)]; exact l4
    · rw [xl 13 _ (by omega), pl _ _ (by omega) (by omega)]; exact l5
    · rw [xl 2 _ (by omega), xl 3 _ (by omega), xl 3 _ (by omega), xl 3 _ (by omega), gl _ _ (by omega), pl _ _ (by omega) (by omega), pl _ _ (by omega) (by omega), pl _ _ (by omega) (by omega)]; exact l6 p hp
    · rw [xl 5 _ (by omega), xl 6 _ (by omega), xl 6 _ (by omega), gl _ _ (by omega), pl _ _ (by omega) (by omega), ozc]; exact l7 t ht
    · rw [xl 9 _ (by omega), xl 9 _ (by omega), pl _ _ (by omega) (by omega), pl _ _ (by omega) (by omega)]; exact l8 i hi
    · rw [xl 14 _ (by omega), xl 15 _ (by omega), gl _ _ (by omega), pl _ _ (by omega) (by omega)]; exact l9 i hi
    · rw [xl 16 _ (by omega), pl _ _ (by omega) (by omega)]; exact l10 k hk
  · intro i hi
    obtain ⟨s, t, a, b, h1, h2, h3, h4, h5, h6, h7, h8, h9, h10, h11, h12⟩ := hw i hi
    refine ⟨s, t, a, b, h1, h2, by rw [xl 12 _ (by omega)]; exact h3, by rw [xl 12 _ (by omega)]; exact h4, by rw [xl 12 _ (by omega)]; exact h5, h6, fun k hk => by rw [xl 19 _ (by omega)]; exact h7 k hk, by rw [pl _ _ (by omega) (by omega)]; exact h8, by rw [pl _ _ (by omega) (by omega)]; exact h9, by rw [pl _ _ (by omega) (by omega)]; exact h10, h11, fun k hk => ?_⟩
    rw [pl 24 _ (by omega) (by omega), pl 25 _ (by omega) (by omega)]; exact h12 k hk
theorem dynA {n : Nat} {x m x' m' : St} (hx : DyX x x') (hm : DyM m m') (h : RelA n x m) : RelA n x' m' := by
  have o1 := hx.1
  have p1 := hm.1
  obtain ⟨⟨a1, a2, a3, a4⟩, ⟨b1, b2⟩, c, ⟨s, d1, d2, d3⟩, k, e1, e2, e3, e4⟩ := h
  refine ⟨⟨a1, ?_, ?_, fun i hi => ?_⟩, ⟨?_, ?_⟩, fun i hi => ?_, ⟨s, d1, ?_, ?_⟩, k, e1, ?_, ?_, fun i hi => ?_⟩
  · rw [o1 _ _ rfl]; exact a2
  · rw [p1 _ _ rfl]; exact a3
  · rw [o1 _ _ rfl, p1 _ _ rfl]; exact a4 i hi
  · rw [o1 _ _ rfl, p1 _ _ rfl]; exact b1
  · rw [o1 _ _ rfl, p1 _ _ rfl]; exact b2
  · rw [o1 _ _ rfl, p1 _ _ rfl]; exact c i hi
  · rw [hx.2.2]; exact d2
  · rw [hm.2 0 67 (by decide)]; exact d3
  · rw [o1 _ _ rfl]; exact e2
  · rw [p1 _ _ rfl]; exact e3
  · rw [o1 _ _ rfl, p1 _ _ rfl]; exact e4 i hi
/-- what holds between two calls but for the sums of the lead -/
def K (ld bk : Nat) (L : LD) (x m : St) : Prop := (∃ n, RelA n x m) ∧ RSt ld x ∧ RBk bk m ∧ RLa ld bk L x m ∧ LW ld bk L x m ∧ RDy L x m
theorem K.dy {ld bk : Nat} {L : LD} {x m x' m' : St} (h : K ld bk L x m) (hx : DyX x x') (hm : DyM m m') (hd : RDy L x' m') : K ld bk L x' m' := by
  obtain ⟨⟨n, a⟩, s, b, l, w, -⟩ := h
  obtain ⟨s', b', l', w'⟩ := stat hx hm s b l w
  exact ⟨⟨n, dynA hx hm a⟩, s', b', l', w', hd⟩
theorem K.sc {ld bk : Nat} {L : LD} {x m x' m' : St} (h : K ld bk L x m) (hx : ScX x x') (hm : ScM m m') : K ld bk L x' m' := by
  obtain ⟨-, s, b, l, w, d⟩ := id h
  exact h.dy hx.dy hm.dy (scrP hx hm s b l d).2.2.2
section Prims
variable {ld bk : Nat} {L : LD} {x m : St}
theorem Nb.c {a b a' b' : Int32} {n : Nat} (h : Nb a b n) (ha : a' = a) (hb : b' = b) : Nb a' b' n := by rw [ha, hb]; exact h
theorem RRing.c {g gn lim w mn : Nat} {sz sz' : Int32} {x m x' m' : St} (h : RRing g gn lim w sz mn x m) (h3 : gI x' g 3 = gI x g 3) (h4 : gI x' g 4 = gI x g 4) (hsz : sz' = sz) (hx : ∀ k, gI x' gn k = gI x gn k) (hm : ∀ k, gI m' mn k = gI m mn k) : RRing g gn lim w sz' mn x' m' := by
  obtain ⟨n, o, e1, e2, e3, e4, e5, e6, e7⟩ := h
  exact ⟨n, o, e1, e2, e3, by rw [h4]; exact e4, by rw [hsz]; exact e5, by rw [h3]; exact e6, fun k c hk hc => by rw [hx, hm]; exact e7 k c hk hc⟩
/-- all of it but for the loose letters -/
theorem K.lo {x' m' : St} (h : K ld bk L x m) (hx : ∀ o k, o ≠ 8 → gI x' o k = gI x o k) (hr : ∀ o k, gR x' o k = gR x o k) (hl : ∀ o k, gL x' o k = gL x o k) (hm : ∀ o k, o ≠ 36 → gI m' o k = gI m o k) (hl' : ∀ o k, gL m' o k = gL m o k) (hc : ∀ i, i < 234 → ∃ c, c ≤ 9999 ∧ gI x' 8 i = nI c ∧ gI m' 36 i = nI c) : K ld bk L x' m' := by
  have dx : DyX x x' := ⟨fun o k e => hx o k (fun q => by rw [q] at e; cases e), fun o k _ => hr o k, hl _ _⟩
  have dm : DyM m m' := ⟨fun o k e => hm o k (fun q => by rw [q] at e; cases e), fun o k _ => hl' o k⟩
  obtain ⟨d1, d2, d3, d4, d5, d6, d7, d8, d9⟩ := h.2.2.2.2.2
  refine h.dy dx dm ⟨?_, ?_, ?_, fun p hp => ?_, hc, fun p t hp ht => ?_, ?_, ?_, ?_⟩
  · rw [hx _ _ (by decide), hm _ _ (by decide)]; exact d1
  · rw [hx _ _ (by decide), hm _ _ (by decide)]; exact d2
  · rw [hx 6 _ (by decide), hm 0 _ (by decide)]
    obtain ⟨c, hc, e1, e2, e3⟩ := d3
    exact ⟨c, hc, e1, e2, fun i hi => by rw [hx _ _ (by decide), hm _ _ (by decide)]; exact e3 i hi⟩
  · rw [hx _ _ (by decide), hm _ _ (by decide)]; exact d4 p hp
  · rw [hx _ _ (by decide), hm _ _ (by decide)]; exact d6 p t hp ht
  · rw [hx 21 _ (by decide), hm 0 _ (by decide)]
    obtain ⟨n, hn, e1, e2, e3⟩ := d7
    exact ⟨n, hn, e1, e2, fun k hk => by rw [hx 23 _ (by decide), hx 23 _ (by decide), hx 23 _ (by decide), hm 37 _ (by decide), hm 38 _ (by decide), hm 39 _ (by decide)]; exact e3 k hk⟩
  · exact d8.c (hx _ _ (by decide)) (hx _ _ (by decide)) (hm _ _ (by decide)) (fun k => hx _ _ (by decide)) (fun k => hm _ _ (by decide))
  · exact d9.c (hx _ _ (by decide)) (hx _ _ (by decide)) (hm _ _ (by decide)) (fun k => hx _ _ (by decide)) (fun k => hm _ _ (by decide))
theorem K.lo1 (h : K ld bk L x m) {i c : Nat} (hi : i < 234) (hc : c ≤ 9999) : K ld bk L (sI x 8 i (nI c)) (sI m 36 i (nI c)) := by
  refine h.lo (fun o k e => by rw [gI_sI, if_neg (fun q => e q.1)]) (fun _ _ => rfl) (fun _ _ => rfl) (fun o k e => by rw [gI_sI, if_neg (fun q => e q.1)]) (fun _ _ => rfl) (fun j hj => ?_)
  rw [gI_sI, gI_sI]
  by_cases e : j = i
  · exact ⟨c, hc, if_pos ⟨rfl, e⟩, if_pos ⟨rfl, e⟩⟩
  · rw [if_neg (fun q => e q.2), if_neg (fun q => e q.2)]; exact h.2.2.2.2.2.2.2.2.2.1 j hj
theorem K.coat (h : K ld bk L x m) {p c : Nat} (hp : p < 8) (hc : c < 2 ^ L.nt) (h0 : L.np ≤ p → c = 0) : K ld bk L (sI x 7 p (nI c)) (sI m 35 p (nI c)) := by
  have hx : ∀ o k, o ≠ 7 → gI (sI x 7 p (nI c)) o k = gI x o k := fun o k e => by rw [gI_sI, if_neg (fun q => e q.1)]
  have hm : ∀ o k, o ≠ 35 → gI (sI m 35 p (nI c)) o k = gI m o k := fun o k e => by rw [gI_sI, if_neg (fun q => e q.1)]
  obtain ⟨d1, d2, d3, d4, d5, d6, d7, d8, d9⟩ := h.2.2.2.2.2
  refine h.dy (DyX.sI rfl) (DyM.sI rfl) ⟨?_, ?_, ?_, fun q hq => ?_, fun i hi => ?_, fun p t hp ht => ?_, ?_, ?_, ?_⟩
  · rw [hx _ _ (by decide), hm _ _ (by decide)]; exact d1
  · rw [hx _ _ (by decide), hm _ _ (by decide)]; exact d2
  · rw [hx 6 _ (by decide), hm 0 _ (by decide)]
    obtain ⟨c, hc, e1, e2, e3⟩ := d3
    exact ⟨c, hc, e1, e2, fun i hi => by rw [hx _ _ (by decide), hm _ _ (by decide)]; exact e3 i hi⟩
  · rw [gI_sI, gI_sI]
    by_cases e : q = p
    · exact ⟨c, hc, fun w => h0 (by omega), if_pos ⟨rfl, e⟩, if_pos ⟨rfl, e⟩⟩
    · rw [if_neg (fun w => e w.2), if_neg (fun w => e w.2)]; exact d4 q hq
  · rw [hx _ _ (by decide), hm _ _ (by decide)]; exact d5 i hi
  · rw [hx _ _ (by decide), hm _ _ (by decide)]; exact d6 p t hp ht
  · rw [hx 21 _ (by decide), hm 0 _ (by decide)]
    obtain ⟨n, hn, e1, e2, e3⟩ := d7
    exact ⟨n, hn, e1, e2, fun k hk => by rw [hx 23 _ (by decide), hx 23 _ (by decide), hx 23 _ (by decide), hm 37 _ (by decide), hm 38 _ (by decide), hm 39 _ (by decide)]; exact e3 k hk⟩
  · exact d8.c (hx _ _ (by decide)) (hx _ _ (by decide)) (hm _ _ (by decide)) (fun k => hx _ _ (by decide)) (fun k => hm _ _ (by decide))
  · exact d9.c (hx _ _ (by decide)) (hx _ _ (by decide)) (hm _ _ (by decide)) (fun k => hx _ _ (by decide)) (fun k => hm _ _ (by decide))
theorem K.since (h : K ld bk L x m) {p t y : Nat} (hp : p < L.np) (ht : t < L.nt) (hy : y ≤ 999) : K ld bk L (sI x 10 (12 * p + t) (nI y)) (sI m 43 (12 * p + t) (nI y)) := by
  have hx : ∀ o k, o ≠ 10 → gI (sI x 10 (12 * p + t) (nI y)) o k = gI x o k := fun o k e => by rw [gI_sI, if_neg (fun q => e q.1)]
  have hm : ∀ o k, o ≠ 43 → gI (sI m 43 (12 * p + t) (nI y)) o k = gI m o k := fun o k e => by rw [gI_sI, if_neg (fun q => e q.1)]
  obtain ⟨d1, d2, d3, d4, d5, d6, d7, d8, d9⟩ := h.2.2.2.2.2
  refine h.dy (DyX.sI rfl) (DyM.sI rfl) ⟨?_, ?_, ?_, fun q hq => ?_, fun i hi => ?_, fun q u hq hu => ?_, ?_, ?_, ?_⟩
  · rw [hx _ _ (by decide), hm _ _ (by decide)]; exact d1
  · rw [hx _ _ (by decide), hm _ _ (by decide)]; exact d2
  · rw [hx 6 _ (by decide), hm 0 _ (by decide)]
    obtain ⟨c, hc, e1, e2, e3⟩ := d3
    exact ⟨c, hc, e1, e2, fun i hi => by rw [hx _ _ (by decide), hm _ _ (by decide)]; exact e3 i hi⟩
  · rw [hx _ _ (by decide), hm _ _ (by decide)]; exact d4 q hq
  · rw [hx _ _ (by decide), hm _ _ (by decide)]; exact d5 i hi
  · rw [gI_sI, gI_sI]
    by_cases e : 12 * q + u = 12 * p + t
    · exact ⟨y, hy, if_pos ⟨rfl, e⟩, if_pos ⟨rfl, e⟩⟩
    · rw [if_neg (fun w => e w.2), if_neg (fun w => e w.2)]; exact d6 q u hq hu
  · rw [hx 21 _ (by decide), hm 0 _ (by decide)]
    obtain ⟨n, hn, e1, e2, e3⟩ := d7
    exact ⟨n, hn, e1, e2, fun k hk => by rw [hx 23 _ (by decide), hx 23 _ (by decide), hx 23 _ (by decide), hm 37 _ (by decide), hm 38 _ (by decide), hm 39 _ (by decide)]; exact e3 k hk⟩
  · exact d8.c (hx _ _ (by decide)) (hx _ _ (by decide)) (hm _ _ (by decide)) (fun k => hx _ _ (by decide)) (fun k => hm _ _ (by decide))
  · exact d9.c (hx _ _ (by decide)) (hx _ _ (by decide)) (hm _ _ (by decide)) (fun k => hx _ _ (by decide)) (fun k => hm _ _ (by decide))
/-- a new row in the ring of moves, and of spans -/
theorem K.moves {x' m' : St} (h : K ld bk L x m) (hx : ∀ o k, o ≠ 20 → ¬ (o = 19 ∧ (k = 3 ∨ k = 4)) → gI x' o k = gI x o k) (hr : ∀ o k, gR x' o k = gR x o k) (hl : ∀ o k, gL x' o k = gL x o k) (hm : ∀ o k, o ≠ 41 → ¬ (o = 0 ∧ k = 62) → gI m' o k = gI m o k) (hl' : ∀ o k, gL m' o k = gL m o k) (hc : RRing 19 20 60 5 (gI m' 0 62) 41 x' m') : K ld bk L x' m' := by
  have dx : DyX x x' := ⟨fun o k e => hx o k (fun q => by rw [q] at e; cases e) (fun q => by rcases q with ⟨q1, q2 | q2⟩ <;> rw [q1, q2] at e <;> cases e), fun o k _ => hr o k, hl _ _⟩
  have dm : DyM m m' := ⟨fun o k e => hm o k (fun q => by rw [q] at e; simp [dM] at e) (fun q => by rw [q.1, q.2] at e; cases e), fun o k _ => hl' o k⟩
  obtain ⟨d1, d2, d3, d4, d5, d6, d7, d8, d9⟩ := h.2.2.2.2.2
  refine h.dy dx dm ⟨?_, ?_, ?_, fun p hp => ?_, fun i hi => ?_, fun p t hp ht => ?_, ?_, hc, ?_⟩
  · rw [hx _ _ (by decide) (by decide), hm _ _ (by decide) (by decide)]; exact d1
  · rw [hx _ _ (by decide) (by decide), hm _ _ (by decide) (by decide)]; exact d2
  · rw [hx 6 3 (by decide) (by decide), hm 0 60 (by decide) (by decide)]
    obtain ⟨c, hc, e1, e2, e3⟩ := d3
    exact ⟨c, hc, e1, e2, fun i hi => by rw [hx 9 _ (by decide) (by omega), hm 40 _ (by decide) (by omega)]; exact e3 i hi⟩
  · rw [hx _ _ (by decide) (by omega), hm _ _ (by decide) (by omega)]; exact d4 p hp
  · rw [hx _ _ (by decide) (by omega), hm _ _ (by decide) (by omega)]; exact d5 i hi
  · rw [hx _ _ (by decide) (by omega), hm _ _ (by decide) (by omega)]; exact d6 p t hp ht
  · rw [hx 21 4 (by decide) (by decide), hm 0 56 (by decide) (by decide)]
    obtain ⟨n, hn, e1, e2, e3⟩ := d7
    exact ⟨n, hn, e1, e2, fun k hk => by rw [hx 23 _ (by decide) (by omega), hx 23 _ (by decide) (by omega), hx 23 _ (by decide) (by omega), hm 37 _ (by decide) (by omega), hm 38 _ (by decide) (by omega), hm 39 _ (by decide) (by omega)]; exact e3 k hk⟩
  · exact d9.c (hx _ _ (by decide) (by decide)) (hx _ _ (by decide) (by decide)) (hm _ _ (by decide) (by decide)) (fun k => hx _ _ (by decide) (by omega)) (fun k => hm _ _ (by decide) (by omega))
theorem K.spans {x' m' : St} (h : K ld bk L x m) (hx : ∀ o k, o ≠ 14 → ¬ (o = 13 ∧ (k = 3 ∨ k = 4)) → gI x' o k = gI x o k) (hr : ∀ o k, gR x' o k = gR x o k) (hl : ∀ o k, gL x' o k = gL x o k) (hm : ∀ o k, o ≠ 42 → ¬ (o = 0 ∧ k = 64) → gI m' o k = gI m o k) (hl' : ∀ o k, gL m' o k = gL m o k) (hc : RRing 13 14 80 4 (gI m' 0 64) 42 x' m') : K ld bk L x' m' := by
  have dx : DyX x x' := ⟨fun o k e => hx o k (fun q => by rw [q] at e; cases e) (fun q => by rcases q with ⟨q1, q2 | q2⟩ <;> rw [q1, q2] at e <;> cases e), fun o k _ => hr o k, hl _ _⟩
  have dm : DyM m m' := ⟨fun o k e => hm o k (fun q => by rw [q] at e; simp [dM] at e) (fun q => by rw [q.1, q.2] at e; cases e), fun o k _ => hl' o k⟩
  obtain ⟨d1, d2, d3, d4, d5, d6, d7, d8, d9⟩ := h.2.2.2.2.2
  refine h.dy dx dm ⟨?_, ?_, ?_, fun p hp => ?_, fun i hi => ?_, fun p t hp ht => ?_, ?_, ?_, hc⟩
  · rw [hx _ _ (by decide) (by decide), hm _ _ (by decide) (by decide)]; exact d1
  · rw [hx _ _ (by decide) (by decide), hm _ _ (by decide) (by decide)]; exact d2
  · rw [hx 6 3 (by decide) (by decide), hm 0 60 (by decide) (by decide)]
    obtain ⟨c, hc, e1, e2, e3⟩ := d3
    exact ⟨c, hc, e1, e2, fun i hi => by rw [hx 9 _ (by decide) (by omega), hm 40 _ (by decide) (by omega)]; exact e3 i hi⟩
  · rw [hx _ _ (by decide) (by omega), hm _ _ (by decide) (by omega)]; exact d4 p hp
  · rw [hx _ _ (by decide) (by omega), hm _ _ (by decide) (by omega)]; exact d5 i hi
  · rw [hx _ _ (by decide) (by omega), hm _ _ (by decide) (by omega)]; exact d6 p t hp ht
  · rw [hx 21 4 (by decide) (by decide), hm 0 56 (by decide) (by decide)]
    obtain ⟨n, hn, e1, e2, e3⟩ := d7
    exact ⟨n, hn, e1, e2, fun k hk => by rw [hx 23 _ (by decide) (by omega), hx 23 _ (by decide) (by omega), hx 23 _ (by decide) (by omega), hm 37 _ (by decide) (by omega), hm 38 _ (by decide) (by omega), hm 39 _ (by decide) (by omega)]; exact e3 k hk⟩
  · exact d8.c (hx _ _ (by decide) (by decide)) (hx _ _ (by decide) (by decide)) (hm _ _ (by decide) (by decide)) (fun k => hx _ _ (by decide) (by omega)) (fun k => hm _ _ (by decide) (by omega))
end Prims
