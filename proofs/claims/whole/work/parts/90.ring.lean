/-! ===== a new row in a ring ===== -/
theorem modl {a l : Nat} (h : a < 2 * l) : a % l = if a < l then a else a - l := by
  by_cases c : a < l
  · rw [if_pos c, Nat.mod_eq_of_lt c]
  · rw [if_neg c, Nat.mod_eq_sub_mod (by omega), Nat.mod_eq_of_lt (by omega)]
theorem rslot_ne {s t w c d : Nat} (hc : c < w) (hd : d < w) (h : s ≠ t) : s * w + c ≠ t * w + d := by
  intro e
  have e2 := congrArg (fun z => z / w) e
  rw [Nat.add_comm (s * w), Nat.add_comm (t * w), Nat.add_mul_div_right _ _ (by omega), Nat.add_mul_div_right _ _ (by omega), Nat.div_eq_of_lt hc, Nat.div_eq_of_lt hd] at e2
  omega
/-- how the ring stands after it has grown -/
def Grow (lim n o n' o' : Nat) : Prop := (n < lim ∧ n' = n + 1 ∧ o' = o) ∨ (n = lim ∧ n' = lim ∧ o' = (o + 1) % lim)
theorem ring_fin {g gn lim w mn n o n' o' : Nat} {x m x5 m5 : St} (vals : Nat → Int32) (hn : n ≤ lim) (ho : o < lim) (h0 : n < lim → o = 0) (hl : 0 < lim) (old : ∀ k c, k < n → c < w → gI x gn (((o + k) % lim) * w + c) = gI m mn (w * k + c)) (gr : Grow lim n o n' o') (h4 : gI x5 g 4 = nI n') (h3 : gI x5 g 3 = nI o')
    (hX1 : ∀ c, c < w → gI x5 gn (((o' + (n' - 1)) % lim) * w + c) = vals c) (hX2 : ∀ j, (∀ c, c < w → j ≠ ((o' + (n' - 1)) % lim) * w + c) → gI x5 gn j = gI x gn j)
    (hM1 : ∀ c, c < w → gI m5 mn (w * (n' - 1) + c) = vals c) (hM2 : ∀ j, j < w * (n' - 1) → gI m5 mn j = if n = lim then gI m mn (j + w) else gI m mn j) {sz : Int32} (hsz : sz = nI n') : RRing g gn lim w sz mn x5 m5 := by
  have hb : n' ≤ lim ∧ o' < lim ∧ (n' < lim → o' = 0) ∧ 1 ≤ n' := by
    rcases gr with ⟨a, b, c⟩ | ⟨a, b, c⟩
    · refine ⟨by omega, by omega, fun q => ?_, by omega⟩
      rw [c]; exact h0 a
    · refine ⟨by omega, ?_, fun q => by omega, by omega⟩
      rw [c]; exact Nat.mod_lt _ hl
  obtain ⟨b1, b2, b3, b4⟩ := hb
  refine ⟨n', o', b1, b2, b3, h4, hsz, h3, fun k c hk hc => ?_⟩
  by_cases e : k = n' - 1
  · rw [e, hX1 c hc, hM1 c hc]
  · have hne : (o' + k) % lim ≠ (o' + (n' - 1)) % lim := by
      rw [modl (by omega), modl (by omega)]
      split <;> split <;> omega
    rw [hX2 _ (fun d hd => rslot_ne hc hd hne)]
    have hj : w * k + c < w * (n' - 1) := by
      have : w * (k + 1) ≤ w * (n' - 1) := Nat.mul_le_mul_left _ (by omega)
      rw [Nat.mul_add, Nat.mul_one] at this
      omega
    rw [hM2 _ hj]
    rcases gr with ⟨p, q, r⟩ | ⟨p, q, r⟩
    · rw [if_neg (by omega), r]
      exact old k c (by omega) hc
    · rw [if_pos p]
      have e1 : (o' + k) % lim = (o + (k + 1)) % lim := by
        rw [r, Nat.mod_add_mod, show o + 1 + k = o + (k + 1) by omega]
      rw [e1, old (k + 1) c (by omega) hc, Nat.mul_add, Nat.mul_one, show w * k + w + c = w * k + c + w by omega]
theorem grow_X {g gn lim w n o : Nat} {x : St} (hl : 1 < lim) (hl2 : lim ≤ 1000) (e0 : gI x g 0 = nI lim) (hn : n ≤ lim) (ho : o < lim) (h4 : gI x g 4 = nI n) (h3 : gI x g 3 = nI o) (hg : gn = g + 1) : ∃ x1 n' o', f_X7_grow g x = some ((), x1) ∧ Grow lim n o n' o' ∧ gI x1 g 4 = nI n' ∧ gI x1 g 3 = nI o' ∧ (∀ a k, ¬ (a = g ∧ (k = 3 ∨ k = 4)) → gI x1 a k = gI x a k) ∧ (∀ a k, gR x1 a k = gR x a k) ∧ ∀ a k, gL x1 a k = gL x a k := by
  rw [e_X7_grow, e0, h4]
  by_cases c : n = lim
  · rw [if_pos (nI_le (by omega) (by omega)), e_X7_place, h3, e0]
    dsimp only [ltt]
    rw [nI_1]
    by_cases c2 : lim ≤ o + 1
    · rw [if_pos (nI_le c2 (by omega)), pk_sub c2]
      dsimp only [Option.bind]
      refine ⟨_, n, o + 1 - lim, rfl, Or.inr ⟨c, c, ?_⟩, by rw [gI_sI, if_neg (by omega)]; exact h4, by rw [gI_sI, if_pos ⟨rfl, rfl⟩], fun a k q => by rw [gI_sI, if_neg (fun e => q ⟨e.1, Or.inl e.2⟩)], fun _ _ => rfl, fun _ _ => rfl⟩
      rw [modl (by omega), if_neg (by omega)]
    · rw [if_neg (nI_ge (by omega) (by omega))]
      dsimp only [Option.bind]
      refine ⟨_, n, o + 1, rfl, Or.inr ⟨c, c, ?_⟩, by rw [gI_sI, if_neg (by omega)]; exact h4, by rw [gI_sI, if_pos ⟨rfl, rfl⟩], fun a k q => by rw [gI_sI, if_neg (fun e => q ⟨e.1, Or.inl e.2⟩)], fun _ _ => rfl, fun _ _ => rfl⟩
      rw [modl (by omega), if_pos (by omega)]
  · rw [if_neg (nI_ge (by omega) (by omega)), nI_1]
    dsimp only [ltt]
    exact ⟨_, n + 1, o, rfl, Or.inl ⟨by omega, rfl, rfl⟩, by rw [gI_sI, if_pos ⟨rfl, rfl⟩], by rw [gI_sI, if_neg (by omega)]; exact h3, fun a k q => by rw [gI_sI, if_neg (fun e => q ⟨e.1, Or.inr e.2⟩)], fun _ _ => rfl, fun _ _ => rfl⟩
theorem set_X {g lim w n o c : Nat} {σ : St} (hl2 : lim ≤ 1000) (hw : w ≤ 10) (e0 : gI σ g 0 = nI lim) (e1 : gI σ g 1 = nI w) (hn : n ≤ lim) (hn1 : 1 ≤ n) (ho : o < lim) (h4 : gI σ g 4 = nI n) (h3 : gI σ g 3 = nI o) (hc : c < w) (hln : lnX (g + 1) = lim * w) (v : Int32) : f_X7_set g (nI c) v σ = some ((), sI σ (g + 1) (((o + (n - 1)) % lim) * w + c) v) := by
  rw [e_X7_set, h4, if_neg (nI_nle (by omega) (by omega)), if_neg (nI_pos (by omega)), e1, if_neg (nI_ge hc (by omega)), show nI n - 1 = nI (n - 1) from pk_sub (a := n) (b := 1) (by omega), e_X7_place, h3, e0]
  dsimp only [ltt]
  have key : (if nI lim ≤ nI o + nI (n - 1) then some (nI o + nI (n - 1) - nI lim, σ) else some (nI o + nI (n - 1), σ)) = some (nI ((o + (n - 1)) % lim), σ) := by
    rw [nI_add, modl (by omega)]
    by_cases c4 : lim ≤ o + (n - 1)
    · rw [if_pos (nI_le c4 (by omega)), pk_sub c4, if_neg (by omega)]
    · rw [if_neg (nI_ge (by omega) (by omega)), if_pos (by omega)]
  rw [key]
  dsimp only [Option.bind]
  have hp : (o + (n - 1)) % lim < lim := Nat.mod_lt _ (by omega)
  have hb : ((o + (n - 1)) % lim) * w + c < lim * w := by
    have : ((o + (n - 1)) % lim + 1) * w ≤ lim * w := Nat.mul_le_mul_right w hp
    rw [Nat.add_mul] at this
    omega
  have hb2 : lim * w ≤ 10000 := Nat.le_trans (Nat.mul_le_mul hl2 hw) (by omega)
  rw [e1, pk_mul, nI_add, hln, if_pos (inb_nI hb (by omega)), ix_nI (by omega)]
section Notes
variable {ld bk : Nat} {L : LD} {x m : St}
/-- a note of a move, on both sides -/
theorem noteB (h : K ld bk L x m) (a p q v : Int32) : ∃ x' m', f_X1_note a p q v x = some ((), x') ∧ f_X11_notes a p q v m = some ((), m') ∧ K ld bk L x' m' ∧ (∀ o k, o ≠ 20 → ¬ (o = 19 ∧ (k = 3 ∨ k = 4)) → gI x' o k = gI x o k) ∧ ∀ o k, o ≠ 41 → ¬ (o = 0 ∧ k = 62) → gI m' o k = gI m o k := by
  obtain ⟨-, hs, hb, hl, hw, d1, d2, d3, d4, d5, d6, d7, ⟨n, o, hn, ho, h0, s1, s2, s3, old⟩, d9⟩ := id h
  obtain ⟨y, hy, y1, y2⟩ := d1
  have e0 : gI x 19 0 = nI 60 := hs.2.2.2.2.2.2.1.1
  have e1 : gI x 19 1 = nI 5 := hs.2.2.2.2.2.2.1.2
  -- here
  obtain ⟨x1, n', o', g1, g2, g3, g4, g5, g6, g7⟩ := grow_X (g := 19) (gn := 20) (w := 5) (by omega) (by omega) e0 hn ho s1 s3 rfl
  have nb : 1 ≤ n' ∧ n' ≤ 60 ∧ o' < 60 := by
    rcases g2 with ⟨a, b, c⟩ | ⟨a, b, c⟩
    · omega
    · refine ⟨by omega, by omega, ?_⟩
      rw [c]; exact Nat.mod_lt _ (by omega)
  have sl : (o' + (n' - 1)) % 60 < 60 := Nat.mod_lt _ (by omega)
  have f0 : gI x1 19 0 = nI 60 := by rw [g5 _ _ (by omega)]; exact e0
  have f1 : gI x1 19 1 = nI 5 := by rw [g5 _ _ (by omega)]; exact e1
  have st : ∀ (σ : St) (c : Nat) (u : Int32), (∀ k, gI σ 19 k = gI x1 19 k) → c < 5 → f_X7_set 19 (nI c) u σ = some ((), sI σ 20 (((o' + (n' - 1)) % 60) * 5 + c) u) := by
    intro σ c u hσ hc
    exact set_X (g := 19) (lim := 60) (w := 5) (by omega) (by omega) (by rw [hσ]; exact f0) (by rw [hσ]; exact f1) nb.2.1 nb.1 nb.2.2 (by rw [hσ]; exact g3) (by rw [hσ]; exact g4) hc rfl u
  let S := ((o' + (n' - 1)) % 60) * 5
  let x2 := sI x1 20 (S + 0) (gI x1 6 1)
  let x3 := sI x2 20 (S + 1) a
  let x4 := sI x3 20 (S + 2) p
  let x5 := sI x4 20 (S + 3) q
  let x6 := sI x5 20 (S + 4) v
  have u19 : ∀ (σ : St) (j : Nat) (u : Int32), (∀ k, gI σ 19 k = gI x1 19 k) → ∀ k, gI (sI σ 20 j u) 19 k = gI x1 19 k := fun σ j u hσ k => by rw [gI_sI, if_neg (by omega)]; exact hσ k
  have t2 : ∀ k, gI x2 19 k = gI x1 19 k := u19 _ _ _ (fun _ => rfl)
  have t3 : ∀ k, gI x3 19 k = gI x1 19 k := u19 _ _ _ t2
  have t4 : ∀ k, gI x4 19 k = gI x1 19 k := u19 _ _ _ t3
  have t5 : ∀ k, gI x5 19 k = gI x1 19 k := u19 _ _ _ t4
  have t6 : ∀ k, gI x6 19 k = gI x1 19 k := u19 _ _ _ t5
  have eX : f_X1_note a p q v x = some ((), x6) := by
    have a0 : f_X7_set 19 0 (gI x1 6 1) x1 = some ((), x2) := st x1 0 _ (fun _ => rfl) (by omega)
    have a1 : f_X7_set 19 1 a x2 = some ((), x3) := st x2 1 _ t2 (by omega)
    have a2 : f_X7_set 19 2 p x3 = some ((), x4) := st x3 2 _ t3 (by omega)
    have a3 : f_X7_set 19 3 q x4 = some ((), x5) := st x4 3 _ t4 (by omega)
    have a4 : f_X7_set 19 4 v x5 = some ((), x6) := st x5 4 _ t5 (by omega)
    rw [e_X1_note, g1]
    dsimp only [Option.bind]
    rw [a0]
    dsimp only
    rw [a1]
    dsimp only
    rw [a2]
    dsimp only
    rw [a3]
    dsimp only
    rw [a4]
  let vals : Nat → Int32 := fun c => if c = 0 then gI x 6 1 else if c = 1 then a else if c = 2 then p else if c = 3 then q else v
  have hX1 : ∀ c, c < 5 → gI x6 20 (((o' + (n' - 1)) % 60) * 5 + c) = vals c := by
    intro c hc
    have y6 : gI x1 6 1 = gI x 6 1 := g5 _ _ (by omega)
    show gI (sI (sI (sI (sI (sI x1 20 (S + 0) (gI x1 6 1)) 20 (S + 1) a) 20 (S + 2) p) 20 (S + 3) q) 20 (S + 4) v) 20 (S + c) = vals c
    have : c = 0 ∨ c = 1 ∨ c = 2 ∨ c = 3 ∨ c = 4 := by omega
    rcases this with rfl | rfl | rfl | rfl | rfl
    · rw [gI_sI, if_neg (by omega), gI_sI, if_neg (by omega), gI_sI, if_neg (by omega), gI_sI, if_neg (by omega), gI_sI, if_pos ⟨rfl, rfl⟩, y6]; rfl
    · rw [gI_sI, if_neg (by omega), gI_sI, if_neg (by omega), gI_sI, if_neg (by omega), gI_sI, if_pos ⟨rfl, rfl⟩]; rfl
    · rw [gI_sI, if_neg (by omega), gI_sI, if_neg (by omega), gI_sI, if_pos ⟨rfl, rfl⟩]; rfl
    · rw [gI_sI, if_neg (by omega), gI_sI, if_pos ⟨rfl, rfl⟩]; rfl
    · rw [gI_sI, if_pos ⟨rfl, rfl⟩]; rfl
  have hX2 : ∀ j, (∀ c, c < 5 → j ≠ ((o' + (n' - 1)) % 60) * 5 + c) → gI x6 20 j = gI x 20 j := by
    intro j hj
    show gI (sI (sI (sI (sI (sI x1 20 (S + 0) (gI x1 6 1)) 20 (S + 1) a) 20 (S + 2) p) 20 (S + 3) q) 20 (S + 4) v) 20 j = gI x 20 j
    rw [gI_sI, if_neg (fun e => hj 4 (by omega) e.2), gI_sI, if_neg (fun e => hj 3 (by omega) e.2), gI_sI, if_neg (fun e => hj 2 (by omega) e.2), gI_sI, if_neg (fun e => hj 1 (by omega) e.2), gI_sI, if_neg (fun e => hj 0 (by omega) e.2)]
    exact g5 _ _ (by omega)
  have frX : ∀ o k, o ≠ 20 → ¬ (o = 19 ∧ (k = 3 ∨ k = 4)) → gI x6 o k = gI x o k := by
    intro o k h1 h2
    show gI (sI (sI (sI (sI (sI x1 20 (S + 0) (gI x1 6 1)) 20 (S + 1) a) 20 (S + 2) p) 20 (S + 3) q) 20 (S + 4) v) o k = gI x o k
    rw [gI_sI, if_neg (fun e => h1 e.1), gI_sI, if_neg (fun e => h1 e.1), gI_sI, if_neg (fun e => h1 e.1), gI_sI, if_neg (fun e => h1 e.1), gI_sI, if_neg (fun e => h1 e.1)]
    exact g5 _ _ h2
  -- there: what stands after the rows were moved up
  have wr : ∀ (m1 : St) (r : Nat), r < 60 → (∀ o k, o ≠ 41 → ¬ (o = 0 ∧ k = 62) → gI m1 o k = gI m o k) → (∀ o k, gL m1 o k = gL m o k) → gI m1 0 62 = nI r → ∃ m', (ltt ((5 : Int32) * (gI m1 0 62)) fun w2 => if inb w2 300 = true then (ltt (sI m1 41 (ix w2) (gI m1 0 52)) fun σ3 => if inb (w2 + (1 : Int32)) 300 = true then (ltt (sI σ3 41 (ix (w2 + (1 : Int32))) a) fun σ4 => if inb (w2 + (2 : Int32)) 300 = true then (ltt (sI σ4 41 (ix (w2 + (2 : Int32))) p) fun σ5 => if inb (w2 + (3 : Int32)) 300 = true then (ltt (sI σ5 41 (ix (w2 + (3 : Int32))) q) fun σ6 => if inb (w2 + (4 : Int32)) 300 = true then (ltt (sI σ6 41 (ix (w2 + (4 : Int32))) v) fun σ7 => ltt (sI σ7 0 62 ((gI σ7 0 62) + (1 : Int32))) fun σ8 => some ((), σ8)) else none) else none) else none) else none) else none) = some ((), m') ∧ gI m' 0 62 = nI (r + 1) ∧ (∀ c, c < 5 → gI m' 41 (5 * r + c) = vals c) ∧ (∀ j, j < 5 * r → gI m' 41 j = gI m1 41 j) ∧ (∀ o k, o ≠ 41 → ¬ (o = 0 ∧ k = 62) → gI m' o k = gI m o k) ∧ ∀ o k, gL m' o k = gL m o k := by
    intro m1 r hr fr gl e62
    have y52 : gI m1 0 52 = gI x 6 1 := by rw [fr 0 52 (by decide) (by decide), y2, y1]
    rw [e62, show (5 : Int32) = nI 5 from rfl, pk_mul]
    dsimp only [ltt]
    rw [show (1 : Int32) = nI 1 from rfl, show (2 : Int32) = nI 2 from rfl, show (3 : Int32) = nI 3 from rfl, show (4 : Int32) = nI 4 from rfl, nI_add, nI_add, nI_add, nI_add, if_pos (inb_nI (show 5 * r < 300 by omega) (by omega)), if_pos (inb_nI (show 5 * r + 1 < 300 by omega) (by omega)), if_pos (inb_nI (show 5 * r + 2 < 300 by omega) (by omega)), if_pos (inb_nI (show 5 * r + 3 < 300 by omega) (by omega)), if_pos (inb_nI (show 5 * r + 4 < 300 by omega) (by omega)), ix_nI (by omega), ix_nI (by omega), ix_nI (by omega), ix_nI (by omega), ix_nI (by omega)]
    refine ⟨_, rfl, ?_, fun c hc => ?_, fun j hj => ?_, fun o k h1 h2 => ?_, gl⟩
    · rw [gI_sI, if_pos ⟨rfl, rfl⟩, gI_sI, if_neg (by omega), gI_sI, if_neg (by omega), gI_sI, if_neg (by omega), gI_sI, if_neg (by omega), gI_sI, if_neg (by omega), e62, nI_add]
    · rw [gI_sI, if_neg (by omega)]
      have : c = 0 ∨ c = 1 ∨ c = 2 ∨ c = 3 ∨ c = 4 := by omega
      rcases this with rfl | rfl | rfl | rfl | rfl
      · rw [gI_sI, if_neg (by omega), gI_sI, if_neg (by omega), gI_sI, if_neg (by omega), gI_sI, if_neg (by omega), gI_sI, if_pos ⟨rfl, rfl⟩, y52]; rfl
      · rw [gI_sI, if_neg (by omega), gI_sI, if_neg (by omega), gI_sI, if_neg (by omega), gI_sI, if_pos ⟨rfl, rfl⟩]; rfl
      · rw [gI_sI, if_neg (by omega), gI_sI, if_neg (by omega), gI_sI, if_pos ⟨rfl, rfl⟩]; rfl
      · rw [gI_sI, if_neg (by omega), gI_sI, if_pos ⟨rfl, rfl⟩]; rfl
      · rw [gI_sI, if_pos ⟨rfl, rfl⟩]; rfl
    · rw [gI_sI, if_neg (by omega), gI_sI, if_neg (by omega), gI_sI, if_neg (by omega), gI_sI, if_neg (by omega), gI_sI, if_neg (by omega), gI_sI, if_neg (by omega)]
    · rw [gI_sI, if_neg (fun e => h2 e), gI_sI, if_neg (fun e => h1 e.1), gI_sI, if_neg (fun e => h1 e.1), gI_sI, if_neg (fun e => h1 e.1), gI_sI, if_neg (fun e => h1 e.1), gI_sI, if_neg (fun e => h1 e.1)]
      exact fr o k h1 h2
  have hM : ∃ m', f_X11_notes a p q v m = some ((), m') ∧ gI m' 0 62 = nI n' ∧ (∀ c, c < 5 → gI m' 41 (5 * (n' - 1) + c) = vals c) ∧ (∀ j, j < 5 * (n' - 1) → gI m' 41 j = if n = 60 then gI m 41 (j + 5) else gI m 41 j) ∧ (∀ o k, o ≠ 41 → ¬ (o = 0 ∧ k = 62) → gI m' o k = gI m o k) ∧ ∀ o k, gL m' o k = gL m o k := by
    rw [e_X11_notes, s2]
    rcases g2 with ⟨r1, r2, r3⟩ | ⟨r1, r2, r3⟩
    · rw [if_neg (show ¬ nI n = (60 : Int32) from fun e => by have := (nI_eq (b := 60) (by omega) (by omega)).mp e; omega)]
      obtain ⟨m', w1, w2, w3, w4, w5, w6⟩ := wr m n (by omega) (fun _ _ _ _ => rfl) (fun _ _ => rfl) s2
      rw [s2] at w1
      refine ⟨m', w1, by rw [w2, r2], fun c hc => ?_, fun j hj => ?_, w5, w6⟩
      · rw [show n' - 1 = n by omega]; exact w3 c hc
      · rw [if_neg (by omega)]; exact w4 j (by omega)
    · rw [if_pos (show nI n = (60 : Int32) by rw [r1]; rfl)]
      obtain ⟨m1, ⟨q1, q2, q3, q4⟩, e⟩ := loop_exF (fun k (σ : St) i => f_X11_notes_12 k a p q v (nI i) σ) (fun σ => ltt (sI σ 0 62 ((gI σ 0 62) - (1 : Int32))) fun σ1 => (ltt ((5 : Int32) * (gI σ1 0 62)) fun w2 => if inb w2 300 = true then (ltt (sI σ1 41 (ix w2) (gI σ1 0 52)) fun σ3 => if inb (w2 + (1 : Int32)) 300 = true then (ltt (sI σ3 41 (ix (w2 + (1 : Int32))) a) fun σ4 => if inb (w2 + (2 : Int32)) 300 = true then (ltt (sI σ4 41 (ix (w2 + (2 : Int32))) p) fun σ5 => if inb (w2 + (3 : Int32)) 300 = true then (ltt (sI σ5 41 (ix (w2 + (3 : Int32))) q) fun σ6 => if inb (w2 + (4 : Int32)) 300 = true then (ltt (sI σ6 41 (ix (w2 + (4 : Int32))) v) fun σ7 => ltt (sI σ7 0 62 ((gI σ7 0 62) + (1 : Int32))) fun σ8 => some ((), σ8)) else none) else none) else none) else none) else none)) 295 (by omega) (fun i σ => (∀ j, j < i → gI σ 41 j = gI m 41 (j + 5)) ∧ (∀ j, i ≤ j → gI σ 41 j = gI m 41 j) ∧ (∀ o k, o ≠ 41 → gI σ o k = gI m o k) ∧ ∀ o k, gL σ o k = gL m o k) (fun k σ hσ => by
        rw [e_X11_notes_12, if_pos (by decide)]) (fun k σ i hi hσ => by
        obtain ⟨q1, q2, q3, q4⟩ := hσ
        refine ⟨sI σ 41 i (gI σ 41 (i + 5)), ?_, fun j hj => ?_, fun j hj => ?_, fun o k ho => by rw [gI_sI, if_neg (fun e => ho e.1)]; exact q3 o k ho, q4⟩
        · rw [e_X11_notes_12, if_neg (show ¬ (295 : Int32) ≤ nI i from nI_ge (b := 295) hi (by omega)), show (5 : Int32) = nI 5 from rfl, nI_add, if_pos (inb_nI (by omega) (by omega)), if_pos (inb_nI (by omega) (by omega)), ix_nI (by omega), ix_nI (by omega), nI_1]
          rfl
        · rw [gI_sI]
          by_cases e : j = i
          · rw [if_pos ⟨rfl, e⟩, q2 _ (by omega), e]
          · rw [if_neg (fun w => e w.2)]; exact q1 j (by omega)
        · rw [gI_sI, if_neg (by omega)]; exact q2 j (by omega)) m ⟨fun j hj => by omega, fun j _ => rfl, fun _ _ _ => rfl, fun _ _ => rfl⟩
      have e59 : gI (sI m1 0 62 ((gI m1 0 62) - 1)) 0 62 = nI 59 := by rw [gI_sI, if_pos ⟨rfl, rfl⟩, q3 0 62 (by decide), s2, r1]; rfl
      obtain ⟨m', w1, w2, w3, w4, w5, w6⟩ := wr (sI m1 0 62 ((gI m1 0 62) - 1)) 59 (by omega) (fun o k h1 h2 => by rw [gI_sI, if_neg h2]; exact q3 o k h1) q4 e59
      refine ⟨m', Eq.trans e w1, by rw [w2, r2], fun c hc => ?_, fun j hj => ?_, w5, w6⟩
      · rw [show n' - 1 = 59 by omega]; exact w3 c hc
      · rw [if_pos r1, w4 j (by omega), gI_sI, if_neg (by omega)]; exact q1 j (by omega)
  obtain ⟨m', w1, w2, w3, w4, w5, w6⟩ := hM
  refine ⟨x6, m', eX, w1, ?_, frX, w5⟩
  refine h.moves frX (fun o k => g6 o k) (fun o k => g7 o k) w5 w6 ?_
  exact ring_fin vals hn ho h0 (by omega) old g2 (by rw [t6]; exact g3) (by rw [t6]; exact g4) hX1 hX2 w3 w4 w2
end Notes
