/-! ===== the pure side: numbers, the small parts of the relation, the calls that touch these alone ===== -/
theorem nI_lit (n : Nat) : (OfNat.ofNat n : Int32) = nI n := rfl
theorem in_of {x : Int32} {n : Nat} (h0 : ¬ x < 0) (h1 : x < nI n) (hn : n < 2 ^ 31) : ∃ j, j < n ∧ x = nI j := by
  obtain ⟨j, hj, rfl⟩ := nI_of h0
  exact ⟨j, (nI_ltI hj hn).mp h1, rfl⟩
/-- cells of the small parts: tape, fault, refusals, image (seed: the only long of the class) -/
def xA (o k : Nat) : Bool := (decide (o = 0) && (decide (k = 9) || decide (k = 10) || decide (k = 11))) || decide (o = 1) || decide (o = 2) || decide (o = 32) || decide (o = 33)
def mA (o k : Nat) : Bool := (decide (o = 0) && (decide (k = 1) || decide (k = 10) || decide (k = 11) || decide (k = 72))) || decide (o = 1) || decide (o = 32) || decide (o = 45)
def OffX (x x' : St) : Prop := (∀ o k, xA o k = false → gI x' o k = gI x o k) ∧ ∀ o k, gR x' o k = gR x o k
def OffM (m m' : St) : Prop := (∀ o k, mA o k = false → gI m' o k = gI m o k) ∧ ∀ o k, ¬ (o = 0 ∧ k = 67) → gL m' o k = gL m o k
theorem OffX.rf (x : St) : OffX x x := ⟨fun _ _ _ => rfl, fun _ _ => rfl⟩
theorem OffM.rf (m : St) : OffM m m := ⟨fun _ _ _ => rfl, fun _ _ _ => rfl⟩
theorem OffX.tr {x y z : St} (h : OffX x y) (g : OffX y z) : OffX x z := ⟨fun o k e => (g.1 o k e).trans (h.1 o k e), fun o k => (g.2 o k).trans (h.2 o k)⟩
theorem OffM.tr {x y z : St} (h : OffM x y) (g : OffM y z) : OffM x z := ⟨fun o k e => (g.1 o k e).trans (h.1 o k e), fun o k e => (g.2 o k e).trans (h.2 o k e)⟩
theorem OffX.sI {x : St} {o k : Nat} {v : Int32} (h : xA o k = true) : OffX x (sI x o k v) := by
  refine ⟨fun a b e => ?_, fun _ _ => rfl⟩
  rw [gI_sI, if_neg]
  rintro ⟨rfl, rfl⟩
  rw [h] at e
  cases e
theorem OffM.sI {x : St} {o k : Nat} {v : Int32} (h : mA o k = true) : OffM x (sI x o k v) := by
  refine ⟨fun a b e => ?_, fun _ _ _ => rfl⟩
  rw [gI_sI, if_neg]
  rintro ⟨rfl, rfl⟩
  rw [h] at e
  cases e
theorem OffX.sL {x : St} {o k : Nat} {v : Int64} : OffX x (sL x o k v) := ⟨fun _ _ _ => rfl, fun _ _ => rfl⟩
theorem OffM.sL {x : St} {v : Int64} : OffM x (sL x 0 67 v) := ⟨fun _ _ _ => rfl, fun a b e => by rw [gL_sL, if_neg e]⟩
def CongrB (RB : St → St → Prop) : Prop := ∀ x m x' m', OffX x x' → OffM m m' → RB x m → RB x' m'
def RTape (n : Nat) (x m : St) : Prop := n ≤ 1600 ∧ gI x 0 9 = nI n ∧ gI m 0 1 = nI n ∧ ∀ i, i < 1600 → ∃ b, b < 256 ∧ gI x 1 i = nI b ∧ gI m 1 i = nI b
def RFault (x m : St) : Prop := gI x 0 10 = gI m 0 10 ∧ gI x 0 11 = gI m 0 11
def RRef (x m : St) : Prop := ∀ i, i < 6 → gI x 2 i = gI m 32 i
def RSeed (x m : St) : Prop := ∃ s, s < 2 ^ 31 ∧ gL x 18 4 = lN s ∧ gL m 0 67 = lN s
def RImg (x m : St) : Prop := ∃ n, n ≤ 551 ∧ gI x 32 1 = nI n ∧ gI m 0 72 = nI n ∧ ∀ i, i < n → gI x 33 i = gI m 45 i
def RelA (n : Nat) (x m : St) : Prop := RTape n x m ∧ RFault x m ∧ RRef x m ∧ RSeed x m ∧ RImg x m
def RelOf (RB : St → St → Prop) (x m : St) : Prop := (∃ n, RelA n x m) ∧ RB x m
-- refusals
theorem cnt_X {k : Nat} (hk : k < 6) (σ : St) : f_X10_counted (-1) (nI k) σ = some (-1, sI σ 2 k (gI σ 2 k + 1)) := by
  have h1 : ¬ nI k < 0 := nI_pos (by omega)
  have h2 : ¬ (6 : Int32) ≤ nI k := nI_ge (b := 6) hk (by omega)
  rw [e_X10_counted, if_pos rfl, if_neg h1, if_neg h2, if_pos (inb_nI hk (by omega)), if_pos (inb_nI hk (by omega)), ix_nI (by omega)]
  rfl
theorem cnt_ok {v : Int32} (hv : ¬ v = -1) (k : Int32) (σ : St) : f_X10_counted v k σ = some (v, σ) := by
  rw [e_X10_counted, if_neg hv]
theorem grt_no {k : Nat} (hk : k < 6) (σ : St) : f_X10_granted 0 (nI k) σ = some (0, sI σ 2 k (gI σ 2 k + 1)) := by
  rw [e_X10_granted, if_pos rfl, cnt_X hk]
  rfl
theorem grt_ok {v : Int32} (hv : ¬ v = 0) (k : Int32) (σ : St) : f_X10_granted v k σ = some (1, σ) := by
  rw [e_X10_granted, if_neg hv, cnt_ok (by decide)]
  rfl
theorem rf_M {k : Nat} (hk : k < 6) (σ : St) : f_X11_refuses (nI k) σ = some (-1, sI σ 32 k (gI σ 32 k + 1)) := by
  rw [e_X11_refuses, if_pos (inb_nI hk (by omega)), if_pos (inb_nI hk (by omega)), ix_nI (by omega)]
  rfl
theorem RelA.refuse {n k : Nat} {x m : St} (h : RelA n x m) (hk : k < 6) : RelA n (sI x 2 k (gI x 2 k + 1)) (sI m 32 k (gI m 32 k + 1)) := by
  obtain ⟨h1, h2, h3, h4, h5⟩ := h
  refine ⟨?_, ?_, ?_, ?_, ?_⟩
  · simpa [RTape, gI_sI] using h1
  · simpa [RFault, gI_sI] using h2
  · intro i hi
    rw [gI_sI, gI_sI]
    by_cases hik : i = k
    · rw [if_pos ⟨rfl, hik⟩, if_pos ⟨rfl, hik⟩, h3 k hk]
    · rw [if_neg (fun q => hik q.2), if_neg (fun q => hik q.2)]; exact h3 i hi
  · simpa [RSeed, gL_sI] using h4
  · simpa [RImg, gI_sI] using h5
theorem rel_refuse {RB : St → St → Prop} (hc : CongrB RB) {k : Nat} {x m : St} (h : RelOf RB x m) (hk : k < 6) : RelOf RB (sI x 2 k (gI x 2 k + 1)) (sI m 32 k (gI m 32 k + 1)) := by
  obtain ⟨⟨n, hA⟩, hB⟩ := h
  exact ⟨⟨n, hA.refuse hk⟩, hc x m _ _ (OffX.sI rfl) (OffM.sI rfl) hB⟩
-- fault, status, octet
theorem step3 (RB : St → St → Prop) : Step_3 (RelOf RB) := by
  intro a x m h
  obtain ⟨⟨n, h1, h2, h3, h4, h5⟩, hB⟩ := id h
  rw [e_X10_fault, e_X11_fault]
  by_cases c0 : a = 0
  · exact ⟨_, x, m, by rw [if_pos c0], by rw [if_pos c0, h2.1], h⟩
  · by_cases c1 : a = 1
    · exact ⟨_, x, m, by rw [if_neg c0, if_pos c1], by rw [if_neg c0, if_pos c1, h2.2], h⟩
    · exact ⟨_, x, m, by rw [if_neg c0, if_neg c1], by rw [if_neg c0, if_neg c1], h⟩
theorem step35 (RB : St → St → Prop) : Step_35 (RelOf RB) := by
  intro a x m h
  obtain ⟨⟨n, h1, h2, h3, h4, h5⟩, hB⟩ := id h
  rw [e_X10_status, e_X11_status, e_X11_is]
  by_cases c0 : a < 0
  · exact ⟨_, x, m, by rw [if_pos c0], by rw [if_pos c0]; rfl, h⟩
  · by_cases c1 : a < 6
    · obtain ⟨j, hj, rfl⟩ := in_of (n := 6) c0 c1 (by omega)
      have c2 : ¬ (5 : Int32) < nI j := fun q => by
        have := (nI_ltI (a := 5) (b := j) (by omega) (by omega)).mp q
        omega
      refine ⟨_, x, m, by rw [if_neg c0, if_pos c1, if_pos (inb_nI hj (by omega))], ?_, h⟩
      rw [if_neg c0, if_neg c2]
      dsimp only [Option.bind]
      rw [if_neg (by decide), if_pos (inb_nI hj (by omega)), ix_nI (by omega), h3 j hj]
    · have c2 : (5 : Int32) < a := by
        obtain ⟨j, hj, rfl⟩ := nI_of c0
        have : ¬ j < 6 := fun q => c1 (nI_lt (b := 6) q (by omega))
        exact nI_lt (a := 5) (by omega) hj
      exact ⟨_, x, m, by rw [if_neg c0, if_neg c1], by rw [if_neg c0, if_pos c2]; rfl, h⟩
theorem step33 (RB : St → St → Prop) : Step_33 (RelOf RB) := by
  intro a x m h
  obtain ⟨⟨n, h1, h2, h3, h4, k, hk, e1, e2, e3⟩, hB⟩ := id h
  rw [e_X10_octet, e_X11_octet, e1, e2]
  by_cases c0 : a < 0
  · exact ⟨_, x, m, by rw [if_pos c0], by rw [if_pos c0], h⟩
  · obtain ⟨j, hj, rfl⟩ := nI_of c0
    by_cases c1 : j < k
    · refine ⟨_, x, m, by rw [if_neg c0, if_pos (nI_lt c1 (by omega)), if_pos (inb_nI (by omega) (by omega))], ?_, h⟩
      rw [if_neg c0, if_neg (nI_ge c1 (by omega)), if_pos (inb_nI (by omega) (by omega)), ix_nI (by omega), e3 j c1]
    · refine ⟨_, x, m, by rw [if_neg c0, if_neg (nI_nlt (by omega) hj)], ?_, h⟩
      rw [if_neg c0, if_pos (nI_le (by omega) hj)]
-- end
theorem step1 {RB : St → St → Prop} (hc : CongrB RB) : Step_1 (RelOf RB) := by
  intro a x m h
  have no : ∀ {P : St → Prop}, ∃ r x' m', ((f_X10_granted (0 : Int32) (0 : Int32) x).bind fun q3 => if zok q3.1 = true then some (q3.1, q3.2) else none) = some (r, x') ∧ ((f_X11_refuses (0 : Int32) m).bind fun q3 => if q3.1 < 0 then (some ((0 : Int32), q3.2)) else (some ((1 : Int32), q3.2))) = some (r, m') ∧ RelOf RB x' m' := by
    intro P
    have g1 := grt_no (k := 0) (by omega) x
    have g2 := rf_M (k := 0) (by omega) m
    rw [nI_0] at g1 g2
    exact ⟨0, _, _, by rw [g1]; rfl, by rw [g2]; rfl, rel_refuse hc h (by omega)⟩
  obtain ⟨⟨n, ⟨hn, e1, e2, e3⟩, h2, h3, h4, h5⟩, hB⟩ := id h
  rw [e_X10_end, e_X11_end, e1, e2]
  by_cases c0 : a < 0
  · rw [if_pos c0, if_pos c0]; exact no (P := fun _ => True)
  · rw [if_neg c0, if_neg c0]
    by_cases c1 : a ≤ nI n
    · rw [if_pos c1, if_pos c1]
      obtain ⟨j, hj, rfl⟩ := nI_of c0
      have hjn : j ≤ n := (nI_leI hj (by omega)).mp c1
      refine ⟨1, sI x 0 9 (nI j), sI m 0 1 (nI j), rfl, rfl, ⟨j, ⟨by omega, ?_, ?_, ?_⟩, ?_, ?_, ?_, ?_⟩, hc x m _ _ (OffX.sI rfl) (OffM.sI rfl) hB⟩
      · simp [gI_sI]
      · simp [gI_sI]
      · simpa [gI_sI] using e3
      · simpa [RFault, gI_sI] using h2
      · simpa [RRef, gI_sI] using h3
      · simpa [RSeed, gL_sI] using h4
      · simpa [RImg, gI_sI] using h5
    · rw [if_neg c1, if_neg c1]; exact no (P := fun _ => True)
-- seed
theorem step23 {RB : St → St → Prop} (hc : CongrB RB) : Step_23 (RelOf RB) := by
  intro a x m h
  rw [e_X10_seed, e_X1_sow, e_X11_seed]
  by_cases c0 : 0 ≤ a
  · rw [if_pos c0, if_pos c0]
    obtain ⟨⟨n, h1, h2, h3, h4, h5⟩, hB⟩ := h
    have c1 : ¬ a < 0 := fun q => absurd (Int32.lt_of_lt_of_le q c0) (by simp)
    obtain ⟨j, hj, rfl⟩ := nI_of c1
    refine ⟨1, sL x 18 4 (nI j).toInt64, sL m 0 67 (nI j).toInt64, ?_, rfl, ⟨n, ?_, ?_, ?_, ⟨j, hj, ?_, ?_⟩, ?_⟩, hc x m _ _ OffX.sL OffM.sL hB⟩
    · show ((f_X10_granted 1 4 _).bind _) = _
      rw [grt_ok (by decide)]
      rfl
    · simpa [RTape, gI_sL] using h1
    · simpa [RFault, gI_sL] using h2
    · simpa [RRef, gI_sL] using h3
    · rw [gL_sL, if_pos ⟨rfl, rfl⟩, nI_l hj]
    · rw [gL_sL, if_pos ⟨rfl, rfl⟩, nI_l hj]
    · simpa [RImg, gI_sL] using h5
  · rw [if_neg c0, if_neg c0]
    have g1 := grt_no (k := 4) (by omega) x
    have g2 := rf_M (k := 4) (by omega) m
    refine ⟨0, _, _, ?_, ?_, rel_refuse hc h (k := 4) (by omega)⟩
    · show ((f_X10_granted 0 (nI 4) x).bind _) = _
      rw [g1]; rfl
    · show ((f_X11_refuses (nI 4) m).bind _) = _
      rw [g2]; rfl
-- feed
theorem byte_lt (w : Int32) : ∃ b, b < 256 ∧ w &&& 255 = nI b := pk_andE w (m := 255) 8 (by decide +kernel)
theorem putX1 {f n : Nat} {v s : Int32} {x : St} (hn : n < 1600) (e : gI x 0 9 = nI n) (hs : ¬ s < 0) : f_X10_putOnTape_3 (f + 1) v s x = f_X10_putOnTape_3 f v (s + (-8)) (sI (sI x 1 n ((v >>> (s &&& 31)) &&& 255)) 0 9 (nI (n + 1))) := by
  rw [e_X10_putOnTape_3, if_neg hs, e, if_neg (show ¬ (1600 : Int32) ≤ nI n from nI_ge (b := 1600) hn (by omega)), if_pos (inb_nI hn (by omega)), ix_nI (by omega)]
  dsimp only [ltt]
  rw [gI_sI, if_neg (by simp), e, nI_1]
theorem putM1 {f n : Nat} {v s : Int32} {x : St} (hn : n < 1600) (e : gI x 0 1 = nI n) (hs : ¬ s < 0) : f_X11_put_3 (f + 1) v s x = f_X11_put_3 f v (s + (-8)) (sI (sI x 1 n ((v >>> (s &&& 31)) &&& 255)) 0 1 (nI (n + 1))) := by
  rw [e_X11_put_3, if_neg hs, e, if_pos (inb_nI (by omega) (by omega)), ix_nI (by omega)]
  dsimp only [ltt]
  rw [gI_sI, if_neg (by simp), e, nI_1]
theorem RelA.byte {n : Nat} {x m : St} (h : RelA n x m) (hn : n < 1600) (w : Int32) : RelA (n + 1) (sI (sI x 1 n (w &&& 255)) 0 9 (nI (n + 1))) (sI (sI m 1 n (w &&& 255)) 0 1 (nI (n + 1))) := by
  obtain ⟨⟨h0, e1, e2, e3⟩, h2, h3, h4, h5⟩ := h
  refine ⟨⟨by omega, by simp [gI_sI], by simp [gI_sI], ?_⟩, ?_, ?_, ?_, ?_⟩
  · intro i hi
    by_cases hin : i = n
    · obtain ⟨b, hb, e⟩ := byte_lt w
      exact ⟨b, hb, by simp [gI_sI, hin, e], by simp [gI_sI, hin, e]⟩
    · obtain ⟨b, hb, e, e'⟩ := e3 i hi
      exact ⟨b, hb, by simp [gI_sI, hin, e], by simp [gI_sI, hin, e']⟩
  · simpa [RFault, gI_sI] using h2
  · simpa [RRef, gI_sI] using h3
  · simpa [RSeed, gL_sI] using h4
  · simpa [RImg, gI_sI] using h5
theorem byte_off {n : Nat} {x m : St} (w : Int32) (v : Int32) : OffX x (sI (sI x 1 n w) 0 9 v) ∧ OffM m (sI (sI m 1 n w) 0 1 v) := ⟨(OffX.sI rfl).tr (OffX.sI rfl), (OffM.sI rfl).tr (OffM.sI rfl)⟩
theorem put_rel {n : Nat} {x m : St} (h : RelA n x m) (hn : n + 4 ≤ 1600) (v : Int32) : ∃ x' m', f_X10_putOnTape v x = some ((), x') ∧ f_X11_put v m = some ((), m') ∧ RelA (n + 4) x' m' ∧ OffX x x' ∧ OffM m m' := by
  rw [e_X10_putOnTape, e_X11_put, FU_eq]
  have s1 : (24 : Int32) + (-8) = 16 := by decide
  have s2 : (16 : Int32) + (-8) = 8 := by decide
  have s3 : (8 : Int32) + (-8) = 0 := by decide
  have s4 : (0 : Int32) + (-8) = -8 := by decide
  have a1 := h.byte (by omega) (v >>> ((24 : Int32) &&& 31))
  have a2 := a1.byte (by omega) (v >>> ((16 : Int32) &&& 31))
  have a3 := a2.byte (by omega) (v >>> ((8 : Int32) &&& 31))
  have a4 := a3.byte (by omega) (v >>> ((0 : Int32) &&& 31))
  have o1 := byte_off (n := n) (x := x) (m := m) (v >>> ((24 : Int32) &&& 31) &&& 255) (nI (n + 1))
  refine ⟨_, _, ?_, ?_, a4, ?_, ?_⟩
  · rw [show (100000 : Nat) = 99999 + 1 from rfl, putX1 (by omega) h.1.2.1 (by decide), s1, show (99999 : Nat) = 99998 + 1 from rfl, putX1 (by omega) a1.1.2.1 (by decide), s2, show (99998 : Nat) = 99997 + 1 from rfl, putX1 (by omega) a2.1.2.1 (by decide), s3, show (99997 : Nat) = 99996 + 1 from rfl, putX1 (by omega) a3.1.2.1 (by decide), s4, show (99996 : Nat) = 99995 + 1 from rfl, e_X10_putOnTape_3, if_pos (by decide)]
  · rw [show (100000 : Nat) = 99999 + 1 from rfl, putM1 (by omega) h.1.2.2.1 (by decide), s1, show (99999 : Nat) = 99998 + 1 from rfl, putM1 (by omega) a1.1.2.2.1 (by decide), s2, show (99998 : Nat) = 99997 + 1 from rfl, putM1 (by omega) a2.1.2.2.1 (by decide), s3, show (99997 : Nat) = 99996 + 1 from rfl, putM1 (by omega) a3.1.2.2.1 (by decide), s4, show (99996 : Nat) = 99995 + 1 from rfl, e_X11_put_3, if_pos (by decide)]
  · exact (((byte_off (m := m) _ _).1.tr (byte_off (m := m) _ _).1).tr (byte_off (m := m) _ _).1).tr (byte_off (m := m) _ _).1
  · exact (((byte_off (x := x) _ _).2.tr (byte_off (x := x) _ _).2).tr (byte_off (x := x) _ _).2).tr (byte_off (x := x) _ _).2
theorem step0 {RB : St → St → Prop} (hc : CongrB RB) : Step_0 (RelOf RB) := by
  intro a b c d e x m h
  obtain ⟨⟨n, hA⟩, hB⟩ := id h
  have e1 := hA.1.2.1
  have e2 := hA.1.2.2.1
  have hn := hA.1.1
  rw [e_X10_feed, e_X11_feed, e1, e2]
  have e20 : nI n + 20 = nI (n + 20) := nI_add n 20
  rw [e20]
  by_cases c1 : n + 20 ≤ 1600
  · have c2 : nI (n + 20) ≤ (1600 : Int32) := nI_le (b := 1600) c1 (by omega)
    rw [if_pos c2, if_pos c2]
    obtain ⟨x1, m1, g1, k1, A1, o1, p1⟩ := put_rel hA (by omega) a
    obtain ⟨x2, m2, g2, k2, A2, o2, p2⟩ := put_rel A1 (by omega) b
    obtain ⟨x3, m3, g3, k3, A3, o3, p3⟩ := put_rel A2 (by omega) c
    obtain ⟨x4, m4, g4, k4, A4, o4, p4⟩ := put_rel A3 (by omega) d
    obtain ⟨x5, m5, g5, k5, A5, o5, p5⟩ := put_rel A4 (by omega) e
    refine ⟨gI x5 0 9, x5, m5, ?_, ?_, ⟨_, A5⟩, hc x m x5 m5 ((((o1.tr o2).tr o3).tr o4).tr o5) ((((p1.tr p2).tr p3).tr p4).tr p5) hB⟩
    · simp only [g1, g2, g3, g4, g5, Option.bind_some]
    · simp only [k1, k2, k3, k4, k5, Option.bind_some]
      rw [A5.1.2.1, A5.1.2.2.1]
  · have c2 : ¬ nI (n + 20) ≤ (1600 : Int32) := nI_ge (a := 1600) (by omega) (by omega)
    rw [if_neg c2, if_neg c2]
    have g1 := cnt_X (k := 0) (by omega) x
    have g2 := rf_M (k := 0) (by omega) m
    rw [nI_0] at g1 g2
    exact ⟨-1, _, _, by rw [g1]; rfl, by rw [g2]; rfl, rel_refuse hc h (by omega)⟩
