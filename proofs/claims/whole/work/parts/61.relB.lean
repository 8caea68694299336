/-! ===== the relation of the lands and of where the lead is ===== -/
/-- what is told of a land: how many persons, titles, ages, laws, bridges; names, as letters 0 .. 25 -/
abbrev LD : Type := (Nat × Nat × Nat × Nat × Nat) × (Nat → List Nat) × (Nat → List Nat) × (Nat → List Nat)
abbrev LD.np (L : LD) : Nat := L.1.1
abbrev LD.nt (L : LD) : Nat := L.1.2.1
abbrev LD.na (L : LD) : Nat := L.1.2.2.1
abbrev LD.nl (L : LD) : Nat := L.1.2.2.2.1
abbrev LD.nb (L : LD) : Nat := L.1.2.2.2.2
abbrev LD.pn (L : LD) : Nat → List Nat := L.2.1
abbrev LD.tn (L : LD) : Nat → List Nat := L.2.2.1
abbrev LD.bn (L : LD) : Nat → List Nat := L.2.2.2
def pk5 : List Nat → Nat
  | [] => 0
  | c :: l => (c + 1) + 32 * pk5 l
def pk8 (l : List Nat) : Nat := l.foldl (fun w c => 256 * w + (c + 97)) 0
def NameR (w : Int32) (v : Int64) (l : List Nat) : Prop := 1 ≤ l.length ∧ l.length ≤ 6 ∧ (∀ c ∈ l, c < 26) ∧ w = nI (pk5 l) ∧ v = lN (pk8 l)
/-- a number in both stores, with its bound -/
def Nb (a b : Int32) (n : Nat) : Prop := ∃ k, k ≤ n ∧ a = nI k ∧ b = nI k
def ozS (σ : St) (o b : Nat) : List Nat → Int32
  | [] => 0
  | c :: l => ozS σ o b l + gI σ o (b + c)
def rlim (r : Nat) : Nat × Nat := if r = 21 then (20, 3) else if r = 35 ∨ r = 55 then (8, 3) else if r = 38 ∨ r = 58 then (12, 2) else if r = 41 ∨ r = 61 then (6, 2) else if r = 44 ∨ r = 64 then (8, 3) else (4, 1)
def RSt (ld : Nat) (x : St) : Prop := gR x 6 0 = ld ∧ isLand ld ∧ isLand (gR x 0 8) ∧ gR x 0 8 ≠ ld ∧ (∀ r, isRoll r → gI x r 0 = nI (rlim r).1 ∧ gI x r 1 = nI (rlim r).2) ∧ (gI x 13 0 = 80 ∧ gI x 13 1 = 4) ∧ (gI x 19 0 = 60 ∧ gI x 19 1 = 5) ∧ ∀ k, k < 23 → gI x 4 k = ownN k
def RBk (bk : Nat) (m : St) : Prop := bk < 2 ∧ gI m 0 12 = nI bk
def RLa (ld bk : Nat) (L : LD) (x m : St) : Prop :=
  (L.np ≤ 8 ∧ gI x (ld + 1) 4 = nI L.np ∧ gI m 3 bk = nI L.np) ∧ (L.nt ≤ 12 ∧ gI x (ld + 4) 4 = nI L.nt ∧ gI m 9 bk = nI L.nt) ∧ (L.na ≤ 6 ∧ gI x (ld + 7) 4 = nI L.na ∧ gI m 13 bk = nI L.na) ∧ (L.nl ≤ 8 ∧ gI x (ld + 10) 4 = nI L.nl ∧ gI m 16 bk = nI L.nl) ∧ (L.nb ≤ 4 ∧ gI x (ld + 13) 4 = nI L.nb ∧ gI m 20 bk = nI L.nb) ∧
  (∀ p, p < L.np → NameR (gI x (ld + 2) p) (gL m 4 (8 * bk + p)) (L.pn p) ∧ Nb (gI x (ld + 3) (3 * p)) (gI m 5 (8 * bk + p)) 99 ∧ Nb (gI x (ld + 3) (3 * p + 1)) (gI m 6 (8 * bk + p)) 999 ∧ Nb (gI x (ld + 3) (3 * p + 2)) (gI m 7 (8 * bk + p)) 100) ∧
  (∀ t, t < L.nt → NameR (gI x (ld + 5) t) (gL m 10 (12 * bk + t)) (L.tn t) ∧ Nb (gI x (ld + 6) (2 * t)) (gI m 11 (12 * bk + t)) 999 ∧ gI x (ld + 6) (2 * t + 1) = ozS x (ld + 16) 0 (L.tn t)) ∧
  (∀ i, i < L.na → Nb (gI x (ld + 9) (2 * i)) (gI m 14 (6 * bk + i)) 99 ∧ Nb (gI x (ld + 9) (2 * i + 1)) (gI m 15 (6 * bk + i)) 200) ∧
  (∀ i, i < L.nb → NameR (gI x (ld + 14) i) (gL m 21 (4 * bk + i)) (L.bn i) ∧ Nb (gI x (ld + 15) i) (gI m 22 (4 * bk + i)) 9999) ∧
  ∀ k, k < 26 → ∃ o, 1 ≤ o ∧ o ≤ 99 ∧ gI x (ld + 16) k = nI o ∧ gI m 2 (26 * bk + k) = nI o
/-- the last rows, in a ring and in a row -/
def RRing (g gn lim w : Nat) (sz : Int32) (mn : Nat) (x m : St) : Prop := ∃ n o, n ≤ lim ∧ o < lim ∧ (n < lim → o = 0) ∧ gI x g 4 = nI n ∧ sz = nI n ∧ gI x g 3 = nI o ∧ ∀ k c, k < n → c < w → gI x gn (((o + k) % lim) * w + c) = gI m mn (w * k + c)
def RDy (L : LD) (x m : St) : Prop :=
  Nb (gI x 6 1) (gI m 0 52) 999 ∧ (∃ r, r < 16777216 ∧ gI x 6 2 = nI r ∧ gI m 0 55 = nI r) ∧
  (∃ c, c ≤ 30 ∧ gI x 6 3 = nI c ∧ gI m 0 60 = nI c ∧ ∀ i, i < c → ∃ b, 1 ≤ b ∧ b ≤ 65535 ∧ gI x 9 i = nI b ∧ gI m 40 i = nI b) ∧
  (∀ p, p < 8 → ∃ c, c < 2 ^ L.nt ∧ (L.np ≤ p → c = 0) ∧ gI x 7 p = nI c ∧ gI m 35 p = nI c) ∧
  (∀ i, i < 234 → ∃ c, c ≤ 9999 ∧ gI x 8 i = nI c ∧ gI m 36 i = nI c) ∧
  (∀ p t, p < L.np → t < L.nt → Nb (gI x 10 (12 * p + t)) (gI m 43 (12 * p + t)) 999) ∧
  (∃ n, n ≤ 20 ∧ gI x 21 4 = nI n ∧ gI m 0 56 = nI n ∧ ∀ k, k < n → ∃ p q t, p < L.np ∧ q < L.np ∧ t < L.nt ∧ gI x 23 (3 * k) = nI p ∧ gI m 37 k = nI p ∧ gI x 23 (3 * k + 1) = nI q ∧ gI m 38 k = nI q ∧ gI x 23 (3 * k + 2) = nI t ∧ gI m 39 k = nI t) ∧
  RRing 19 20 60 5 (gI m 0 62) 41 x m ∧ RRing 13 14 80 4 (gI m 0 64) 42 x m
def RelB (LW : Nat → Nat → LD → St → St → Prop) (x m : St) : Prop := ∃ ld bk L, RSt ld x ∧ RBk bk m ∧ RLa ld bk L x m ∧ LW ld bk L x m ∧ RDy L x m
-- truth values
def bi (b : Bool) : Int32 := if b then 1 else 0
theorem inb_of {x : Int32} {n : Nat} (h : inb x n = true) (hn : n < 2 ^ 31) : ∃ j, j < n ∧ x = nI j := vp_in_of (inb_in h) hn
theorem inb_neg {x : Int32} {n : Nat} (h : x < 0) : inb x n = false := by simp [inb, h]
theorem inb_big {j n : Nat} (hj : j < 2 ^ 31) (h : n ≤ j) : inb (nI j) n = false := by simp [inb, nI_clamp hj, h]
theorem holds_X {r n : Nat} {x1 : Int32} {σ : St} (e : gI σ r 4 = nI n) (hn : n < 2 ^ 31) : f_X8_holds r x1 σ = some (bi (inb x1 n), σ) := by
  rw [e_X8_holds, e]
  by_cases c0 : x1 < 0
  · rw [if_pos c0, inb_neg c0]; rfl
  · rw [if_neg c0]
    obtain ⟨j, hj, rfl⟩ := nI_of c0
    by_cases c1 : n ≤ j
    · rw [if_pos (nI_le c1 hj), inb_big hj c1]; rfl
    · rw [if_neg (nI_ge (by omega) hn), inb_nI (by omega) hn]; rfl
theorem is_M {n : Nat} {x0 : Int32} {σ : St} (hn : n < 2 ^ 31) : f_X11_is x0 0 (nI n - 1) σ = some (bi (inb x0 n), σ) := by
  rw [e_X11_is]
  by_cases c0 : x0 < 0
  · rw [if_pos c0, inb_neg c0]; rfl
  · rw [if_neg c0]
    obtain ⟨j, hj, rfl⟩ := nI_of c0
    rcases Nat.eq_zero_or_pos n with hz | hz
    · subst hz
      have c : nI 0 - 1 < nI j := by
        rw [Int32.lt_iff_toInt_lt, nI_toInt hj]
        have : (nI 0 - 1).toInt = -1 := by decide
        omega
      rw [if_pos c, inb_big hj (by omega)]; rfl
    · obtain ⟨k, rfl⟩ : ∃ k, n = k + 1 := ⟨n - 1, by omega⟩
      rw [nI_pred]
      by_cases c1 : k + 1 ≤ j
      · rw [if_pos (nI_lt (by omega) hj), inb_big hj c1]; rfl
      · rw [if_neg (nI_nlt (by omega) (by omega)), inb_nI (by omega) hn]; rfl
theorem bi_0 {b : Bool} : bi b = 0 ↔ b = false := by cases b <;> simp [bi]
theorem zok_bi (b : Bool) : zok (bi b) = true := by cases b <;> rfl
theorem landB_of {o : Nat} (h : isLand o) : landB o = true := by
  rcases h with rfl | rfl <;> rfl
theorem bk_ix {bk : Nat} (h : bk < 2) : inb (nI bk) 2 = true ∧ ix (nI bk) = bk := ⟨inb_nI h (by omega), ix_nI (by omega)⟩
theorem step4 (LW : Nat → Nat → LD → St → St → Prop) : Step_4 (RelOf (RelB LW)) := by
  intro a x m h
  obtain ⟨hA, ld, bk, L, s1, ⟨b1, b2⟩, ⟨l1, l2, l3, l4, l5, -⟩, hw, d1, d2, d3, d4, d5, d6, d7, d8, d9⟩ := id h
  rw [e_X10_has, e_X11_has]
  dsimp only [ltt]
  rw [s1.1, if_pos (landB_of s1.2.1), b2, (bk_ix b1).2, (bk_ix b1).1]
  obtain ⟨y, hy, y1, y2⟩ := d1
  obtain ⟨c, hc, c1, c2, -⟩ := d3
  obtain ⟨n7, h7, n71, n72, -⟩ := d7
  obtain ⟨n8, o8, h8, -, -, n81, n82, -⟩ := d8
  rw [l1.2.1, l2.2.1, l3.2.1, l4.2.1, l5.2.1, l1.2.2, l2.2.2, l3.2.2, l4.2.2, l5.2.2, y1, y2, c1, c2, n71, n72, n81, n82]
  simp only [if_true]
  by_cases c0 : a = 0
  · exact ⟨_, x, m, by rw [if_pos c0], by rw [if_pos c0], h⟩
  by_cases c1 : a = 1
  · exact ⟨_, x, m, by rw [if_neg c0, if_pos c1], by rw [if_neg c0, if_pos c1], h⟩
  by_cases c2 : a = 2
  · exact ⟨_, x, m, by rw [if_neg c0, if_neg c1, if_pos c2], by rw [if_neg c0, if_neg c1, if_pos c2], h⟩
  by_cases c3 : a = 3
  · exact ⟨_, x, m, by rw [if_neg c0, if_neg c1, if_neg c2, if_pos c3], by rw [if_neg c0, if_neg c1, if_neg c2, if_pos c3], h⟩
  by_cases c4 : a = 4
  · exact ⟨_, x, m, by rw [if_neg c0, if_neg c1, if_neg c2, if_neg c3, if_pos c4], by rw [if_neg c0, if_neg c1, if_neg c2, if_neg c3, if_pos c4], h⟩
  simp only [if_neg c0, if_neg c1, if_neg c2, if_neg c3, if_neg c4]
  by_cases c5 : a = 5
  · exact ⟨_, x, m, by rw [if_pos c5], by rw [if_pos c5], h⟩
  by_cases c6 : a = 6
  · exact ⟨_, x, m, by rw [if_neg c5, if_pos c6], by rw [if_neg c5, if_pos c6], h⟩
  by_cases c7 : a = 7
  · exact ⟨_, x, m, by rw [if_neg c5, if_neg c6, if_pos c7], by rw [if_neg c5, if_neg c6, if_pos c7], h⟩
  by_cases c8 : a = 8
  · exact ⟨_, x, m, by rw [if_neg c5, if_neg c6, if_neg c7, if_pos c8], by rw [if_neg c5, if_neg c6, if_neg c7, if_pos c8], h⟩
  exact ⟨_, x, m, by rw [if_neg c5, if_neg c6, if_neg c7, if_neg c8], by rw [if_neg c5, if_neg c6, if_neg c7, if_neg c8], h⟩
-- rings
theorem ring_X {g gn lim w mn : Nat} {sz : Int32} {x m : St} (hr : RRing g gn lim w sz mn x m) (hg : gn = g + 1) (hlen : lnX gn = lim * w) (e0 : gI x g 0 = nI lim) (e1 : gI x g 1 = nI w) (hl : lim ≤ 1000) (hw : w ≤ 100) (a b : Int32) :
    (inb a sz.toNatClampNeg = true ∧ inb b w = true ∧ ∃ k c, k < sz.toNatClampNeg ∧ c < w ∧ a = nI k ∧ b = nI c ∧ f_X7_get g a b x = some (gI m mn (w * k + c), x)) ∨ ((inb a sz.toNatClampNeg = false ∨ inb b w = false) ∧ f_X7_get g a b x = some (-1, x)) := by
  obtain ⟨n, o, hn, ho, hno, s1, s2, s3, hd⟩ := hr
  subst hg
  rw [s2, nI_clamp (by omega)]
  rw [e_X7_get, s1, e1]
  by_cases c0 : a < 0
  · exact Or.inr ⟨Or.inl (inb_neg c0), by rw [if_pos c0]⟩
  rw [if_neg c0]
  obtain ⟨k, hk, rfl⟩ := nI_of c0
  by_cases c1 : n ≤ k
  · exact Or.inr ⟨Or.inl (inb_big hk c1), by rw [if_pos (nI_le c1 hk)]⟩
  rw [if_neg (nI_ge (by omega) (by omega))]
  by_cases c2 : b < 0
  · exact Or.inr ⟨Or.inr (inb_neg c2), by rw [if_pos c2]⟩
  rw [if_neg c2]
  obtain ⟨c, hc, rfl⟩ := nI_of c2
  by_cases c3 : w ≤ c
  · exact Or.inr ⟨Or.inr (inb_big hc c3), by rw [if_neg (nI_nlt c3 hc)]⟩
  rw [if_pos (nI_lt (by omega) (by omega))]
  refine Or.inl ⟨inb_nI (by omega) (by omega), inb_nI (by omega) (by omega), k, c, by omega, by omega, rfl, rfl, ?_⟩
  rw [e_X7_place, s3, e0]
  dsimp only [ltt]
  have key : (if nI lim ≤ nI o + nI k then some (nI o + nI k - nI lim, x) else some (nI o + nI k, x)) = some (nI ((o + k) % lim), x) := by
    rw [nI_add]
    by_cases c4 : lim ≤ o + k
    · rw [if_pos (nI_le c4 (by omega)), pk_sub c4]
      congr 3
      rw [Nat.mod_eq_sub_mod c4, Nat.mod_eq_of_lt (by omega)]
    · rw [if_neg (nI_ge (by omega) (by omega)), Nat.mod_eq_of_lt (by omega)]
  rw [key]
  dsimp only [Option.bind]
  have hp : (o + k) % lim < lim := Nat.mod_lt _ (by omega)
  have hb : ((o + k) % lim) * w + c < lim * w := by
    have : ((o + k) % lim + 1) * w ≤ lim * w := Nat.mul_le_mul_right w hp
    rw [Nat.add_mul] at this
    omega
  have hb2 : lim * w ≤ 100000 := Nat.le_trans (Nat.mul_le_mul hl hw) (by omega)
  rw [e1, pk_mul, nI_add, hlen, if_pos (inb_nI hb (by omega)), ix_nI (by omega), hd k c (by omega) (by omega)]
