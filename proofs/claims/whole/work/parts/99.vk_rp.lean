/-! ===== the land that is being read, in both ===== -/
theorem TX.w {x x' : St} (h : TX x x') {o k : Nat} {v : Int32} (ho : o ≠ 3 ∧ o ≠ 5) : TX (sI x o k v) (sI x' o k v) :=
  ⟨fun a b e e' => by rw [gI_sI, gI_sI, h.1 a b e e'], h.2.1, h.2.2.1, by rw [ge_n (by omega), ge_n (by omega)]; exact h.2.2.2⟩
theorem TM.w {m m' : St} (h : TM m m') {o k : Nat} {v : Int32} (ho : o ≠ 0 ∨ 9 < k) : TM (sI m o k v) (sI m' o k v) :=
  ⟨fun a b e => by rw [gI_sI, gI_sI, h.1 a b e], h.2⟩
theorem TM.wl {m m' : St} (h : TM m m') {o k : Nat} {v : Int64} (ho : o ≠ 0) : TM (sL m o k v) (sL m' o k v) :=
  ⟨h.1, fun a b e => by rw [gL_sL, gL_sL, h.2 a b e]⟩
section RPd
variable (ls ib : Nat) (L : LD) (x m : St)
def P0 : Prop := isLand ls ∧ ib < 2 ∧ gR x 5 1 = ls ∧ gI m 0 38 = nI ib ∧ ∀ r, isRoll r → gI x r 0 = nI (rlim r).1 ∧ gI x r 1 = nI (rlim r).2
def P1 : Prop := (L.np ≤ 8 ∧ gI x (ls + 1) 4 = nI L.np ∧ gI m 3 ib = nI L.np) ∧ ∀ p, p < L.np → NameR (gI x (ls + 2) p) (gL m 4 (8 * ib + p)) (L.pn p) ∧ Nb (gI x (ls + 3) (3 * p)) (gI m 5 (8 * ib + p)) 99 ∧ Nb (gI x (ls + 3) (3 * p + 1)) (gI m 6 (8 * ib + p)) 999 ∧ Nb (gI x (ls + 3) (3 * p + 2)) (gI m 7 (8 * ib + p)) 100
def P2 : Prop := (L.nt ≤ 12 ∧ gI x (ls + 4) 4 = nI L.nt ∧ gI m 9 ib = nI L.nt) ∧ ∀ t, t < L.nt → NameR (gI x (ls + 5) t) (gL m 10 (12 * ib + t)) (L.tn t) ∧ Nb (gI x (ls + 6) (2 * t)) (gI m 11 (12 * ib + t)) 999
def P3 : Prop := (L.na ≤ 6 ∧ gI x (ls + 7) 4 = nI L.na ∧ gI m 13 ib = nI L.na) ∧ ∀ i, i < L.na → Nb (gI x (ls + 9) (2 * i)) (gI m 14 (6 * ib + i)) 99 ∧ Nb (gI x (ls + 9) (2 * i + 1)) (gI m 15 (6 * ib + i)) 200
def P4 : Prop := (L.nb ≤ 4 ∧ gI x (ls + 13) 4 = nI L.nb ∧ gI m 20 ib = nI L.nb) ∧ ∀ i, i < L.nb → NameR (gI x (ls + 14) i) (gL m 21 (4 * ib + i)) (L.bn i) ∧ Nb (gI x (ls + 15) i) (gI m 22 (4 * ib + i)) 9999
def P5 : Prop := ∀ k, k < 26 → ∃ o, 1 ≤ o ∧ o ≤ 99 ∧ gI x (ls + 16) k = nI o ∧ gI m 2 (26 * ib + k) = nI o
def P6 : Prop := ∀ k, k < 26 → Nb (gI x (ls + 17) k) (gI m 12 (26 * ib + k)) 99
def P7 : Prop := (∀ p, p < L.np → ∃ c, c < 2 ^ L.nt ∧ gI x (ls + 18) p = nI c ∧ gI m 8 (8 * ib + p) = nI c) ∧ ∀ p, L.np ≤ p → p < 8 → gI x (ls + 18) p = 0
def P8 : Prop := Nb (gI x ls 10) (gI m 23 ib) 99
def LWp (nl A B : Nat) : Prop := ∀ i, i < nl → ∃ (s t : List Tok) (a b : Nat), chk s [] = some [false] ∧ chk t [] = some [true] ∧
  gI x (ls + 12) (3 * i) = nI a ∧ gI x (ls + 12) (3 * i + 1) = nI (a + (cX s).length) ∧ gI x (ls + 12) (3 * i + 2) = nI (a + (cX s).length + (cX t).length) ∧ a + (cX s).length + (cX t).length ≤ A ∧ CodeX x (ls + 19) a (cX s ++ cX t) ∧
  gI m 17 (8 * ib + i) = nI b ∧ gI m 18 (8 * ib + i) = nI (b + (cM s).length) ∧ gI m 19 (8 * ib + i) = nI (b + (cM s).length + (cM t).length) ∧ b + (cM s).length + (cM t).length ≤ B ∧ CodeM m (1600 * ib + b) (cM s ++ cM t)
def P9 (A B : Nat) : Prop := (L.nl ≤ 8 ∧ gI x (ls + 10) 4 = nI L.nl ∧ gI m 16 ib = nI L.nl) ∧ gI x ls 9 = nI A ∧ gI m 0 37 = nI B ∧ LWp ls ib x m L.nl A B
def RP (A B : Nat) : Prop := P0 ls ib x m ∧ P1 ls ib L x m ∧ P2 ls ib L x m ∧ P3 ls ib L x m ∧ P4 ls ib L x m ∧ P5 ls ib x m ∧ P6 ls ib x m ∧ P7 ls ib L x m ∧ P8 ls ib x m ∧ P9 ls ib L x m A B
end RPd
section RPc
variable {ls ib : Nat} {L L' : LD} {x m x' m' : St}
theorem P0.c (h : P0 ls ib x m) (hr : gR x' 5 1 = gR x 5 1) (h38 : gI m' 0 38 = gI m 0 38) (hx : ∀ r k, isRoll r → k < 2 → gI x' r k = gI x r k) : P0 ls ib x' m' :=
  ⟨h.1, h.2.1, hr.trans h.2.2.1, h38.trans h.2.2.2.1, fun r hr => ⟨(hx r 0 hr (by omega)).trans (h.2.2.2.2 r hr).1, (hx r 1 hr (by omega)).trans (h.2.2.2.2 r hr).2⟩⟩
theorem P1.c (h : P1 ls ib L x m) (hL : L'.np = L.np ∧ L'.pn = L.pn) (hx : ∀ o k, ls + 1 ≤ o → o ≤ ls + 3 → gI x' o k = gI x o k) (hm : ∀ o k, o = 3 ∨ 5 ≤ o ∧ o ≤ 7 → gI m' o k = gI m o k) (hl : ∀ k, gL m' 4 k = gL m 4 k) : P1 ls ib L' x' m' := by
  unfold P1
  rw [hL.1, hL.2, hx _ _ (by omega) (by omega), hm _ _ (by omega)]
  refine ⟨h.1, fun p hp => ?_⟩
  rw [hx _ _ (by omega) (by omega), hx _ _ (by omega) (by omega), hx _ _ (by omega) (by omega), hx _ _ (by omega) (by omega), hm _ _ (by omega), hm _ _ (by omega), hm _ _ (by omega), hl]
  exact h.2 p hp
theorem P2.c (h : P2 ls ib L x m) (hL : L'.nt = L.nt ∧ L'.tn = L.tn) (hx : ∀ o k, ls + 4 ≤ o → o ≤ ls + 6 → gI x' o k = gI x o k) (hm : ∀ o k, o = 9 ∨ o = 11 → gI m' o k = gI m o k) (hl : ∀ k, gL m' 10 k = gL m 10 k) : P2 ls ib L' x' m' := by
  unfold P2
  rw [hL.1, hL.2, hx _ _ (by omega) (by omega), hm _ _ (by omega)]
  refine ⟨h.1, fun p hp => ?_⟩
  rw [hx _ _ (by omega) (by omega), hx _ _ (by omega) (by omega), hm _ _ (by omega), hl]
  exact h.2 p hp
theorem P3.c (h : P3 ls ib L x m) (hL : L'.na = L.na) (hx : ∀ o k, ls + 7 ≤ o → o ≤ ls + 9 → gI x' o k = gI x o k) (hm : ∀ o k, 13 ≤ o ∧ o ≤ 15 → gI m' o k = gI m o k) : P3 ls ib L' x' m' := by
  unfold P3
  rw [hL, hx _ _ (by omega) (by omega), hm _ _ (by omega)]
  refine ⟨h.1, fun p hp => ?_⟩
  rw [hx _ _ (by omega) (by omega), hx _ _ (by omega) (by omega), hm _ _ (by omega), hm _ _ (by omega)]
  exact h.2 p hp
theorem P4.c (h : P4 ls ib L x m) (hL : L'.nb = L.nb ∧ L'.bn = L.bn) (hx : ∀ o k, ls + 13 ≤ o → o ≤ ls + 15 → gI x' o k = gI x o k) (hm : ∀ o k, o = 20 ∨ o = 22 → gI m' o k = gI m o k) (hl : ∀ k, gL m' 21 k = gL m 21 k) : P4 ls ib L' x' m' := by
  unfold P4
  rw [hL.1, hL.2, hx _ _ (by omega) (by omega), hm _ _ (by omega)]
  refine ⟨h.1, fun p hp => ?_⟩
  rw [hx _ _ (by omega) (by omega), hx _ _ (by omega) (by omega), hm _ _ (by omega), hl]
  exact h.2 p hp
theorem P5.c (h : P5 ls ib x m) (hx : ∀ k, gI x' (ls + 16) k = gI x (ls + 16) k) (hm : ∀ k, gI m' 2 k = gI m 2 k) : P5 ls ib x' m' := fun k hk => by rw [hx, hm]; exact h k hk
theorem P6.c (h : P6 ls ib x m) (hx : ∀ k, gI x' (ls + 17) k = gI x (ls + 17) k) (hm : ∀ k, gI m' 12 k = gI m 12 k) : P6 ls ib x' m' := fun k hk => by rw [hx, hm]; exact h k hk
theorem P7.c (h : P7 ls ib L x m) (hL : L'.np = L.np ∧ L'.nt = L.nt) (hx : ∀ k, gI x' (ls + 18) k = gI x (ls + 18) k) (hm : ∀ k, gI m' 8 k = gI m 8 k) : P7 ls ib L' x' m' := by
  unfold P7
  rw [hL.1, hL.2]
  exact ⟨fun p hp => by rw [hx, hm]; exact h.1 p hp, fun p h1 h2 => by rw [hx]; exact h.2 p h1 h2⟩
theorem P8.c (h : P8 ls ib x m) (hx : gI x' ls 10 = gI x ls 10) (hm : gI m' 23 ib = gI m 23 ib) : P8 ls ib x' m' := by unfold P8; rw [hx, hm]; exact h
theorem LWp.c {nl A B A' B' : Nat} (h : LWp ls ib x m nl A B) (hA : A ≤ A') (hB : B ≤ B') (hx : ∀ i, i < nl → ∀ j, j < 3 → gI x' (ls + 12) (3 * i + j) = gI x (ls + 12) (3 * i + j)) (hx' : ∀ k, k < A → gI x' (ls + 19) k = gI x (ls + 19) k) (hm : ∀ o i, i < nl → 17 ≤ o ∧ o ≤ 19 → gI m' o (8 * ib + i) = gI m o (8 * ib + i)) (hm' : ∀ o k, o = 24 ∨ o = 25 → k < B → gI m' o (1600 * ib + k) = gI m o (1600 * ib + k)) : LWp ls ib x' m' nl A' B' := by
  intro i hi
  obtain ⟨s, t, a, b, h1, h2, h3, h4, h5, h6, h7, h8, h9, h10, h11, h12⟩ := h i hi
  refine ⟨s, t, a, b, h1, h2, ?_, ?_, ?_, by omega, ?_, ?_, ?_, ?_, by omega, ?_⟩
  · exact (hx i hi 0 (by omega)).trans h3
  · exact (hx i hi 1 (by omega)).trans h4
  · exact (hx i hi 2 (by omega)).trans h5
  · intro k hk
    rw [hx' _ (by rw [List.length_append] at hk; omega)]; exact h7 k hk
  · exact (hm 17 i hi (by omega)).trans h8
  · exact (hm 18 i hi (by omega)).trans h9
  · exact (hm 19 i hi (by omega)).trans h10
  · intro k hk
    have e := h12 k hk
    rw [List.length_append] at hk
    rw [Nat.add_assoc] at e ⊢
    rw [hm' 24 _ (by omega) (by omega), hm' 25 _ (by omega) (by omega)]
    exact e
theorem P9.c {A B : Nat} (h : P9 ls ib L x m A B) (hL : L'.nl = L.nl) (hx : ∀ o k, o = ls + 10 ∨ o = ls + 12 ∨ o = ls + 19 ∨ (o = ls ∧ k = 9) → gI x' o k = gI x o k) (hm : ∀ o k, 16 ≤ o ∧ o ≤ 19 ∨ o = 24 ∨ o = 25 ∨ (o = 0 ∧ k = 37) → gI m' o k = gI m o k) : P9 ls ib L' x' m' A B := by
  unfold P9
  rw [hL, hx _ _ (by omega), hm _ _ (by omega), hx _ _ (by omega), hm _ _ (by omega)]
  exact ⟨h.1, h.2.1, h.2.2.1, h.2.2.2.c (Nat.le_refl _) (Nat.le_refl _) (fun i _ j _ => hx _ _ (by omega)) (fun k _ => hx _ _ (by omega)) (fun o i _ _ => hm _ _ (by omega)) (fun o k _ _ => hm _ _ (by omega))⟩
theorem land_o (h : isLand ls) : ls = 34 ∨ ls = 54 := h
theorem roll_o {r : Nat} (h : isRoll r) : r = 21 ∨ r = 35 ∨ r = 38 ∨ r = 41 ∨ r = 44 ∨ r = 47 ∨ r = 55 ∨ r = 58 ∨ r = 61 ∨ r = 64 ∨ r = 67 := by
  simpa [isRoll] using h
theorem RP.t {A B : Nat} (h : RP ls ib L x m A B) (hx : TX x x') (hm : TM m m') : RP ls ib L x' m' A B := by
  obtain ⟨h0, h1, h2, h3, h4, h5, h6, h7, h8, h9⟩ := h
  have hl := land_o h0.1
  exact ⟨h0.c (hx.2.1 5 1) (hm.1 0 38 (by omega)) (fun r k hr _ => hx.1 r k (by have := roll_o hr; omega) (by have := roll_o hr; omega)), h1.c ⟨rfl, rfl⟩ (fun o k _ _ => hx.1 o k (by omega) (by omega)) (fun o k _ => hm.1 o k (by omega)) (fun k => hm.2 4 k (by omega)), h2.c ⟨rfl, rfl⟩ (fun o k _ _ => hx.1 o k (by omega) (by omega)) (fun o k _ => hm.1 o k (by omega)) (fun k => hm.2 10 k (by omega)), h3.c rfl (fun o k _ _ => hx.1 o k (by omega) (by omega)) (fun o k _ => hm.1 o k (by omega)), h4.c ⟨rfl, rfl⟩ (fun o k _ _ => hx.1 o k (by omega) (by omega)) (fun o k _ => hm.1 o k (by omega)) (fun k => hm.2 21 k (by omega)), h5.c (fun k => hx.1 _ k (by omega) (by omega)) (fun k => hm.1 2 k (by omega)), h6.c (fun k => hx.1 _ k (by omega) (by omega)) (fun k => hm.1 12 k (by omega)), h7.c ⟨rfl, rfl⟩ (fun k => hx.1 _ k (by omega) (by omega)) (fun k => hm.1 8 k (by omega)), h8.c (hx.1 _ _ (by omega) (by omega)) (hm.1 23 _ (by omega)), h9.c rfl (fun o k _ => hx.1 o k (by omega) (by omega)) (fun o k _ => hm.1 o k (by omega))⟩
end RPc
/-- what a piece of the reading may change: the reader, the spare land, the other bank -/
def wd (o : Nat) : Nat := [0, 0, 26, 1, 8, 8, 8, 8, 8, 1, 12, 12, 26, 1, 6, 6, 1, 8, 8, 8, 1, 4, 4, 1, 1600, 1600].getD o 0
def FL (ls ib : Nat) (x m x' m' : St) : Prop := ((∀ o k, o ≠ 3 → o ≠ 5 → ¬ (ls ≤ o ∧ o < ls + 20 ∧ ¬ ((o = ls + 1 ∨ o = ls + 4 ∨ o = ls + 7 ∨ o = ls + 10 ∨ o = ls + 13) ∧ k < 2)) → gI x' o k = gI x o k) ∧ (∀ o k, gR x' o k = gR x o k) ∧ (∀ o k, gL x' o k = gL x o k) ∧ gI x' 3 2 = gI x 3 2) ∧ (∀ o k, mS o k = false → ¬ (o = 0 ∧ k = 7) → ¬ (wd o * ib ≤ k ∧ k < wd o * ib + wd o) → gI m' o k = gI m o k) ∧ (∀ o k, ¬ (o = 0 ∧ k = 7) → ¬ (wd o * ib ≤ k ∧ k < wd o * ib + wd o) → gL m' o k = gL m o k)
section FLs
variable {ls ib : Nat} {x m x' m' x'' m'' : St}
theorem FL.rf (ls ib : Nat) (x m : St) : FL ls ib x m x m := ⟨⟨fun _ _ _ _ _ => rfl, fun _ _ => rfl, fun _ _ => rfl, rfl⟩, fun _ _ _ _ _ => rfl, fun _ _ _ _ => rfl⟩
theorem FL.tr (h : FL ls ib x m x' m') (g : FL ls ib x' m' x'' m'') : FL ls ib x m x'' m'' :=
  ⟨⟨fun o k e e' e2 => (g.1.1 o k e e' e2).trans (h.1.1 o k e e' e2), fun o k => (g.1.2.1 o k).trans (h.1.2.1 o k), fun o k => (g.1.2.2.1 o k).trans (h.1.2.2.1 o k), g.1.2.2.2.trans h.1.2.2.2⟩, fun o k e e1 e' => (g.2.1 o k e e1 e').trans (h.2.1 o k e e1 e'), fun o k e e' => (g.2.2 o k e e').trans (h.2.2 o k e e')⟩
theorem mS_k {k : Nat} (h : mS 0 k = false) : ¬ (3 ≤ k ∧ k ≤ 6) ∧ k ≠ 8 ∧ k ≠ 9 := by
  simp [mS] at h
  omega
theorem FL.t (hx : TX x x') (hm : TM m m') : FL ls ib x m x' m' :=
  ⟨⟨fun o k e e' _ => hx.1 o k e e', hx.2.1, hx.2.2.1, hx.2.2.2⟩, fun o k e e1 _ => hm.1 o k (fun q => by
        obtain ⟨rfl, q1, q2⟩ := q
        have := mS_k e
        omega), fun o k e _ => hm.2 o k e⟩
theorem FL.sx {o k : Nat} {v : Int32} (h : ls ≤ o ∧ o < ls + 20 ∧ ¬ ((o = ls + 1 ∨ o = ls + 4 ∨ o = ls + 7 ∨ o = ls + 10 ∨ o = ls + 13) ∧ k < 2)) (h3 : o ≠ 3) : FL ls ib x m (sI x o k v) m :=
  ⟨⟨fun a b _ _ e => ge_n (by omega), fun _ _ => rfl, fun _ _ => rfl, ge_n (by omega)⟩, fun _ _ _ _ _ => rfl, fun _ _ _ _ => rfl⟩
theorem FL.sm {o k : Nat} {v : Int32} (h : mS o k = true ∨ (wd o * ib ≤ k ∧ k < wd o * ib + wd o)) : FL ls ib x m x (sI m o k v) :=
  ⟨⟨fun _ _ _ _ _ => rfl, fun _ _ => rfl, fun _ _ => rfl, rfl⟩, fun a b e _ e' => ge_n (fun q => by
    obtain ⟨rfl, rfl⟩ := q
    rcases h with h | h
    · rw [h] at e; cases e
    · exact e' h), fun _ _ _ _ => rfl⟩
theorem FL.sml {o k : Nat} {v : Int64} (h : wd o * ib ≤ k ∧ k < wd o * ib + wd o) : FL ls ib x m x (sL m o k v) :=
  ⟨⟨fun _ _ _ _ _ => rfl, fun _ _ => rfl, fun _ _ => rfl, rfl⟩, fun _ _ _ _ _ => rfl, fun a b e e' => by
    rw [gL_sL, if_neg]
    intro q
    obtain ⟨rfl, rfl⟩ := q
    exact e' h⟩
end FLs
