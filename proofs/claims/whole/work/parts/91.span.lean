/-! ===== a title comes, a title goes ===== -/
section Spans
variable {ld bk : Nat} {L : LD} {x m : St}
theorem spanB (h : K ld bk L x m) {p t : Nat} (hp : p < L.np) (ht : t < L.nt) : ∃ x' m', ((f_X7_grow 13 x).bind fun q10 => (f_X7_set 13 (0 : Int32) (nI p) q10.2).bind fun q11 => (f_X7_set 13 (1 : Int32) (nI t) q11.2).bind fun q12 => if inb ((nI p * (12 : Int32)) + nI t) 96 = true then ((f_X7_set 13 (2 : Int32) (gI q12.2 10 (ix ((nI p * (12 : Int32)) + nI t))) q12.2).bind fun q13 => (f_X7_set 13 (3 : Int32) (gI q13.2 6 1) q13.2).bind fun q14 => some ((), q14.2)) else none) = some ((), x') ∧ (if (gI m 0 64) = (80 : Int32) then (f_X11_goes_25 FU (nI p) (nI t) (0 : Int32) m) else (ltt ((4 : Int32) * (gI m 0 64)) fun w11 => if inb w11 320 = true then (ltt (sI m 42 (ix w11) (nI p)) fun σ12 => if inb (w11 + (1 : Int32)) 320 = true then (ltt (sI σ12 42 (ix (w11 + (1 : Int32))) (nI t)) fun σ13 => if inb (((12 : Int32) * nI p) + nI t) 96 = true then (if inb (w11 + (2 : Int32)) 320 = true then (ltt (sI σ13 42 (ix (w11 + (2 : Int32))) (gI σ13 43 (ix (((12 : Int32) * nI p) + nI t)))) fun σ14 => if inb (w11 + (3 : Int32)) 320 = true then (ltt (sI σ14 42 (ix (w11 + (3 : Int32))) (gI σ14 0 52)) fun σ15 => ltt (sI σ15 0 64 ((gI σ15 0 64) + (1 : Int32))) fun σ16 => some ((), σ16)) else none) else none) else none) else none) else none)) = some ((), m') ∧ K ld bk L x' m' ∧ (∀ o k, o ≠ 14 → ¬ (o = 13 ∧ (k = 3 ∨ k = 4)) → gI x' o k = gI x o k) ∧ ∀ o k, o ≠ 42 → ¬ (o = 0 ∧ k = 64) → gI m' o k = gI m o k := by
  obtain ⟨-, hs, hb, hl, hw, d1, d2, d3, d4, d5, d6, d7, d8, ⟨n, o, hn, ho, h0, s1, s2, s3, old⟩⟩ := id h
  obtain ⟨y, hy, y1, y2⟩ := d1
  obtain ⟨si, hsi, si1, si2⟩ := d6 p t hp ht
  have h8 := hl.1.1
  have h12 := hl.2.1.1
  have e0 : gI x 13 0 = nI 80 := hs.2.2.2.2.2.1.1
  have e1 : gI x 13 1 = nI 4 := hs.2.2.2.2.2.1.2
  have ixX : nI p * 12 + nI t = nI (12 * p + t) := by rw [show (12 : Int32) = nI 12 from rfl, pk_mul, nI_add, Nat.mul_comm]
  have ixM : 12 * nI p + nI t = nI (12 * p + t) := by rw [show (12 : Int32) = nI 12 from rfl, pk_mul, nI_add]
  obtain ⟨x1, n', o', g1, g2, g3, g4, g5, g6, g7⟩ := grow_X (g := 13) (gn := 14) (w := 4) (by omega) (by omega) e0 hn ho s1 s3 rfl
  have nb : 1 ≤ n' ∧ n' ≤ 80 ∧ o' < 80 := by
    rcases g2 with ⟨a, b, c⟩ | ⟨a, b, c⟩
    · omega
    · refine ⟨by omega, by omega, ?_⟩
      rw [c]; exact Nat.mod_lt _ (by omega)
  have sl : (o' + (n' - 1)) % 80 < 80 := Nat.mod_lt _ (by omega)
  have f0 : gI x1 13 0 = nI 80 := by rw [g5 _ _ (by omega)]; exact e0
  have f1 : gI x1 13 1 = nI 4 := by rw [g5 _ _ (by omega)]; exact e1
  have st : ∀ (σ : St) (c : Nat) (u : Int32), (∀ k, gI σ 13 k = gI x1 13 k) → c < 4 → f_X7_set 13 (nI c) u σ = some ((), sI σ 14 (((o' + (n' - 1)) % 80) * 4 + c) u) := by
    intro σ c u hσ hc
    exact set_X (g := 13) (lim := 80) (w := 4) (by omega) (by omega) (by rw [hσ]; exact f0) (by rw [hσ]; exact f1) nb.2.1 nb.1 nb.2.2 (by rw [hσ]; exact g3) (by rw [hσ]; exact g4) hc rfl u
  let S := ((o' + (n' - 1)) % 80) * 4
  let x2 := sI x1 14 (S + 0) (nI p)
  let x3 := sI x2 14 (S + 1) (nI t)
  let x4 := sI x3 14 (S + 2) (nI si)
  let x5 := sI x4 14 (S + 3) (nI y)
  have u13 : ∀ (σ : St) (j : Nat) (u : Int32), (∀ k, gI σ 13 k = gI x1 13 k) → ∀ k, gI (sI σ 14 j u) 13 k = gI x1 13 k := fun σ j u hσ k => by rw [gI_sI, if_neg (by omega)]; exact hσ k
  have t2 : ∀ k, gI x2 13 k = gI x1 13 k := u13 _ _ _ (fun _ => rfl)
  have t3 : ∀ k, gI x3 13 k = gI x1 13 k := u13 _ _ _ t2
  have t4 : ∀ k, gI x4 13 k = gI x1 13 k := u13 _ _ _ t3
  have t5 : ∀ k, gI x5 13 k = gI x1 13 k := u13 _ _ _ t4
  have v10 : gI x3 10 (12 * p + t) = nI si := by
    show gI (sI (sI x1 14 (S + 0) (nI p)) 14 (S + 1) (nI t)) 10 (12 * p + t) = nI si
    rw [gI_sI, if_neg (by omega), gI_sI, if_neg (by omega), g5 _ _ (by omega)]; exact si1
  have v6 : gI x4 6 1 = nI y := by
    show gI (sI (sI (sI x1 14 (S + 0) (nI p)) 14 (S + 1) (nI t)) 14 (S + 2) (nI si)) 6 1 = nI y
    rw [gI_sI, if_neg (by omega), gI_sI, if_neg (by omega), gI_sI, if_neg (by omega), g5 _ _ (by omega)]; exact y1
  have eX : ((f_X7_grow 13 x).bind fun q10 => (f_X7_set 13 (0 : Int32) (nI p) q10.2).bind fun q11 => (f_X7_set 13 (1 : Int32) (nI t) q11.2).bind fun q12 => if inb ((nI p * (12 : Int32)) + nI t) 96 = true then ((f_X7_set 13 (2 : Int32) (gI q12.2 10 (ix ((nI p * (12 : Int32)) + nI t))) q12.2).bind fun q13 => (f_X7_set 13 (3 : Int32) (gI q13.2 6 1) q13.2).bind fun q14 => some ((), q14.2)) else none) = some ((), x5) := by
    have a0 : f_X7_set 13 0 (nI p) x1 = some ((), x2) := st x1 0 _ (fun _ => rfl) (by omega)
    have a1 : f_X7_set 13 1 (nI t) x2 = some ((), x3) := st x2 1 _ t2 (by omega)
    have a2 : f_X7_set 13 2 (nI si) x3 = some ((), x4) := st x3 2 _ t3 (by omega)
    have a3 : f_X7_set 13 3 (nI y) x4 = some ((), x5) := st x4 3 _ t4 (by omega)
    rw [g1]
    dsimp only [Option.bind]
    rw [a0]
    dsimp only
    rw [a1]
    dsimp only
    rw [ixX, if_pos (inb_nI (by omega) (by omega)), ix_nI (by omega), v10, a2]
    dsimp only
    rw [v6, a3]
  let vals : Nat → Int32 := fun c => if c = 0 then nI p else if c = 1 then nI t else if c = 2 then nI si else nI y
  have hX1 : ∀ c, c < 4 → gI x5 14 (((o' + (n' - 1)) % 80) * 4 + c) = vals c := by
    intro c hc
    show gI (sI (sI (sI (sI x1 14 (S + 0) (nI p)) 14 (S + 1) (nI t)) 14 (S + 2) (nI si)) 14 (S + 3) (nI y)) 14 (S + c) = vals c
    have : c = 0 ∨ c = 1 ∨ c = 2 ∨ c = 3 := by omega
    rcases this with rfl | rfl | rfl | rfl
    · rw [gI_sI, if_neg (by omega), gI_sI, if_neg (by omega), gI_sI, if_neg (by omega), gI_sI, if_pos ⟨rfl, rfl⟩]; rfl
    · rw [gI_sI, if_neg (by omega), gI_sI, if_neg (by omega), gI_sI, if_pos ⟨rfl, rfl⟩]; rfl
    · rw [gI_sI, if_neg (by omega), gI_sI, if_pos ⟨rfl, rfl⟩]; rfl
    · rw [gI_sI, if_pos ⟨rfl, rfl⟩]; rfl
  have hX2 : ∀ j, (∀ c, c < 4 → j ≠ ((o' + (n' - 1)) % 80) * 4 + c) → gI x5 14 j = gI x 14 j := by
    intro j hj
    show gI (sI (sI (sI (sI x1 14 (S + 0) (nI p)) 14 (S + 1) (nI t)) 14 (S + 2) (nI si)) 14 (S + 3) (nI y)) 14 j = gI x 14 j
    rw [gI_sI, if_neg (fun e => hj 3 (by omega) e.2), gI_sI, if_neg (fun e => hj 2 (by omega) e.2), gI_sI, if_neg (fun e => hj 1 (by omega) e.2), gI_sI, if_neg (fun e => hj 0 (by omega) e.2)]
    exact g5 _ _ (by omega)
  have frX : ∀ o k, o ≠ 14 → ¬ (o = 13 ∧ (k = 3 ∨ k = 4)) → gI x5 o k = gI x o k := by
    intro o k h1 h2
    show gI (sI (sI (sI (sI x1 14 (S + 0) (nI p)) 14 (S + 1) (nI t)) 14 (S + 2) (nI si)) 14 (S + 3) (nI y)) o k = gI x o k
    rw [gI_sI, if_neg (fun e => h1 e.1), gI_sI, if_neg (fun e => h1 e.1), gI_sI, if_neg (fun e => h1 e.1), gI_sI, if_neg (fun e => h1 e.1)]
    exact g5 _ _ h2
  have wr : ∀ (m1 : St) (r : Nat), r < 80 → (∀ o k, o ≠ 42 → ¬ (o = 0 ∧ k = 64) → gI m1 o k = gI m o k) → (∀ o k, gL m1 o k = gL m o k) → gI m1 0 64 = nI r → ∃ m', (ltt ((4 : Int32) * (gI m1 0 64)) fun w11 => if inb w11 320 = true then (ltt (sI m1 42 (ix w11) (nI p)) fun σ12 => if inb (w11 + (1 : Int32)) 320 = true then (ltt (sI σ12 42 (ix (w11 + (1 : Int32))) (nI t)) fun σ13 => if inb (((12 : Int32) * nI p) + nI t) 96 = true then (if inb (w11 + (2 : Int32)) 320 = true then (ltt (sI σ13 42 (ix (w11 + (2 : Int32))) (gI σ13 43 (ix (((12 : Int32) * nI p) + nI t)))) fun σ14 => if inb (w11 + (3 : Int32)) 320 = true then (ltt (sI σ14 42 (ix (w11 + (3 : Int32))) (gI σ14 0 52)) fun σ15 => ltt (sI σ15 0 64 ((gI σ15 0 64) + (1 : Int32))) fun σ16 => some ((), σ16)) else none) else none) else none) else none) else none) = some ((), m') ∧ gI m' 0 64 = nI (r + 1) ∧ (∀ c, c < 4 → gI m' 42 (4 * r + c) = vals c) ∧ (∀ j, j < 4 * r → gI m' 42 j = gI m1 42 j) ∧ (∀ o k, o ≠ 42 → ¬ (o = 0 ∧ k = 64) → gI m' o k = gI m o k) ∧ ∀ o k, gL m' o k = gL m o k := by
    intro m1 r hr fr gl e64
    have w43 : ∀ (A B : Nat) (u v : Int32), gI (sI (sI m1 42 A u) 42 B v) 43 (12 * p + t) = nI si := fun A B u v => by rw [gI_sI, if_neg (by omega), gI_sI, if_neg (by omega), fr 43 _ (by decide) (by omega)]; exact si2
    have w52 : ∀ (A B C : Nat) (u v w : Int32), gI (sI (sI (sI m1 42 A u) 42 B v) 42 C w) 0 52 = nI y := fun A B C u v w => by rw [gI_sI, if_neg (by omega), gI_sI, if_neg (by omega), gI_sI, if_neg (by omega), fr 0 52 (by decide) (by decide)]; exact y2
    rw [e64, ixM, show (4 : Int32) = nI 4 from rfl, pk_mul]
    dsimp only [ltt]
    rw [show (1 : Int32) = nI 1 from rfl, show (2 : Int32) = nI 2 from rfl, show (3 : Int32) = nI 3 from rfl, nI_add, nI_add, nI_add, if_pos (inb_nI (show 4 * r < 320 by omega) (by omega)), if_pos (inb_nI (show 4 * r + 1 < 320 by omega) (by omega)), if_pos (inb_nI (show 12 * p + t < 96 by omega) (by omega)), if_pos (inb_nI (show 4 * r + 2 < 320 by omega) (by omega)), if_pos (inb_nI (show 4 * r + 3 < 320 by omega) (by omega)), ix_nI (by omega), ix_nI (by omega), ix_nI (by omega), ix_nI (by omega), ix_nI (by omega), w43, w52]
    refine ⟨_, rfl, ?_, fun c hc => ?_, fun j hj => ?_, fun o k h1 h2 => ?_, gl⟩
    · rw [gI_sI, if_pos ⟨rfl, rfl⟩, gI_sI, if_neg (by omega), gI_sI, if_neg (by omega), gI_sI, if_neg (by omega), gI_sI, if_neg (by omega), e64, nI_add]
    · rw [gI_sI, if_neg (by omega)]
      have : c = 0 ∨ c = 1 ∨ c = 2 ∨ c = 3 := by omega
      rcases this with rfl | rfl | rfl | rfl
      · rw [gI_sI, if_neg (by omega), gI_sI, if_neg (by omega), gI_sI, if_neg (by omega), gI_sI, if_pos ⟨rfl, rfl⟩]; rfl
      · rw [gI_sI, if_neg (by omega), gI_sI, if_neg (by omega), gI_sI, if_pos ⟨rfl, rfl⟩]; rfl
      · rw [gI_sI, if_neg (by omega), gI_sI, if_pos ⟨rfl, rfl⟩]; rfl
      · rw [gI_sI, if_pos ⟨rfl, rfl⟩]; rfl
    · rw [gI_sI, if_neg (by omega), gI_sI, if_neg (by omega), gI_sI, if_neg (by omega), gI_sI, if_neg (by omega), gI_sI, if_neg (by omega)]
    · rw [gI_sI, if_neg (fun e => h2 e), gI_sI, if_neg (fun e => h1 e.1), gI_sI, if_neg (fun e => h1 e.1), gI_sI, if_neg (fun e => h1 e.1), gI_sI, if_neg (fun e => h1 e.1)]
      exact fr o k h1 h2
  have hM : ∃ m', (if (gI m 0 64) = (80 : Int32) then (f_X11_goes_25 FU (nI p) (nI t) (0 : Int32) m) else (ltt ((4 : Int32) * (gI m 0 64)) fun w11 => if inb w11 320 = true then (ltt (sI m 42 (ix w11) (nI p)) fun σ12 => if inb (w11 + (1 : Int32)) 320 = true then (ltt (sI σ12 42 (ix (w11 + (1 : Int32))) (nI t)) fun σ13 => if inb (((12 : Int32) * nI p) + nI t) 96 = true then (if inb (w11 + (2 : Int32)) 320 = true then (ltt (sI σ13 42 (ix (w11 + (2 : Int32))) (gI σ13 43 (ix (((12 : Int32) * nI p) + nI t)))) fun σ14 => if inb (w11 + (3 : Int32)) 320 = true then (ltt (sI σ14 42 (ix (w11 + (3 : Int32))) (gI σ14 0 52)) fun σ15 => ltt (sI σ15 0 64 ((gI σ15 0 64) + (1 : Int32))) fun σ16 => some ((), σ16)) else none) else none) else none) else none) else none)) = some ((), m') ∧ gI m' 0 64 = nI n' ∧ (∀ c, c < 4 → gI m' 42 (4 * (n' - 1) + c) = vals c) ∧ (∀ j, j < 4 * (n' - 1) → gI m' 42 j = if n = 80 then gI m 42 (j + 4) else gI m 42 j) ∧ (∀ o k, o ≠ 42 → ¬ (o = 0 ∧ k = 64) → gI m' o k = gI m o k) ∧ ∀ o k, gL m' o k = gL m o k := by
    rcases g2 with ⟨r1, r2, r3⟩ | ⟨r1, r2, r3⟩
    · rw [if_neg (show ¬ gI m 0 64 = (80 : Int32) from fun e => by rw [s2] at e; have := (nI_eq (b := 80) (by omega) (by omega)).mp e; omega)]
      obtain ⟨m', w1, w2, w3, w4, w5, w6⟩ := wr m n (by omega) (fun _ _ _ _ => rfl) (fun _ _ => rfl) s2
      refine ⟨m', w1, by rw [w2, r2], fun c hc => ?_, fun j hj => ?_, w5, w6⟩
      · rw [show n' - 1 = n by omega]; exact w3 c hc
      · rw [if_neg (by omega)]; exact w4 j (by omega)
    · rw [if_pos (show gI m 0 64 = (80 : Int32) by rw [s2, r1]; rfl)]
      obtain ⟨m1, ⟨q1, q2, q3, q4⟩, e⟩ := loop_exF (fun k (σ : St) i => f_X11_goes_25 k (nI p) (nI t) (nI i) σ) (fun σ => ltt (sI σ 0 64 ((gI σ 0 64) - (1 : Int32))) fun σ1 => (ltt ((4 : Int32) * (gI σ1 0 64)) fun w11 => if inb w11 320 = true then (ltt (sI σ1 42 (ix w11) (nI p)) fun σ12 => if inb (w11 + (1 : Int32)) 320 = true then (ltt (sI σ12 42 (ix (w11 + (1 : Int32))) (nI t)) fun σ13 => if inb (((12 : Int32) * nI p) + nI t) 96 = true then (if inb (w11 + (2 : Int32)) 320 = true then (ltt (sI σ13 42 (ix (w11 + (2 : Int32))) (gI σ13 43 (ix (((12 : Int32) * nI p) + nI t)))) fun σ14 => if inb (w11 + (3 : Int32)) 320 = true then (ltt (sI σ14 42 (ix (w11 + (3 : Int32))) (gI σ14 0 52)) fun σ15 => ltt (sI σ15 0 64 ((gI σ15 0 64) + (1 : Int32))) fun σ16 => some ((), σ16)) else none) else none) else none) else none) else none)) 316 (by omega) (fun i σ => (∀ j, j < i → gI σ 42 j = gI m 42 (j + 4)) ∧ (∀ j, i ≤ j → gI σ 42 j = gI m 42 j) ∧ (∀ o k, o ≠ 42 → gI σ o k = gI m o k) ∧ ∀ o k, gL σ o k = gL m o k) (fun k σ hσ => by
        rw [e_X11_goes_25, if_pos (by decide)]) (fun k σ i hi hσ => by
        obtain ⟨q1, q2, q3, q4⟩ := hσ
        refine ⟨sI σ 42 i (gI σ 42 (i + 4)), ?_, fun j hj => ?_, fun j hj => ?_, fun o k ho => by rw [gI_sI, if_neg (fun e => ho e.1)]; exact q3 o k ho, q4⟩
        · rw [e_X11_goes_25, if_neg (show ¬ (316 : Int32) ≤ nI i from nI_ge (b := 316) hi (by omega)), show (4 : Int32) = nI 4 from rfl, nI_add, if_pos (inb_nI (by omega) (by omega)), if_pos (inb_nI (by omega) (by omega)), ix_nI (by omega), ix_nI (by omega), nI_1]
          rfl
        · rw [gI_sI]
          by_cases e : j = i
          · rw [if_pos ⟨rfl, e⟩, q2 _ (by omega), e]
          · rw [if_neg (fun w => e w.2)]; exact q1 j (by omega)
        · rw [gI_sI, if_neg (by omega)]; exact q2 j (by omega)) m ⟨fun j hj => by omega, fun j _ => rfl, fun _ _ _ => rfl, fun _ _ => rfl⟩
      have e79 : gI (sI m1 0 64 ((gI m1 0 64) - 1)) 0 64 = nI 79 := by rw [gI_sI, if_pos ⟨rfl, rfl⟩, q3 0 64 (by decide), s2, r1]; rfl
      obtain ⟨m', w1, w2, w3, w4, w5, w6⟩ := wr (sI m1 0 64 ((gI m1 0 64) - 1)) 79 (by omega) (fun o k h1 h2 => by rw [gI_sI, if_neg h2]; exact q3 o k h1) q4 e79
      refine ⟨m', Eq.trans e w1, by rw [w2, r2], fun c hc => ?_, fun j hj => ?_, w5, w6⟩
      · rw [show n' - 1 = 79 by omega]; exact w3 c hc
      · rw [if_pos r1, w4 j (by omega), gI_sI, if_neg (by omega)]; exact q1 j (by omega)
  obtain ⟨m', w1, w2, w3, w4, w5, w6⟩ := hM
  refine ⟨x5, m', eX, w1, ?_, frX, w5⟩
  refine h.spans frX (fun o k => g6 o k) (fun o k => g7 o k) w5 w6 ?_
  exact ring_fin vals hn ho h0 (by omega) old g2 (by rw [t5]; exact g3) (by rw [t5]; exact g4) hX1 hX2 w3 w4 w2
end Spans
