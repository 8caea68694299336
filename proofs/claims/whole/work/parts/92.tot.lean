/-! ===== the sums of the lead; come, go, scatter ===== -/
def loN (x : St) (i : Nat) : Nat := (gI x 8 i).toNatClampNeg
def nw (W : Nat → Nat) : List Nat → Nat
  | [] => 0
  | c :: l => W c + nw W l
theorem nw_app (W : Nat → Nat) (l k : List Nat) : nw W (l ++ k) = nw W l + nw W k := by
  induction l with
  | nil => rw [List.nil_append, nw, Nat.zero_add]
  | cons c l ih => rw [List.cons_append, nw, nw, ih]; omega
def lsum (W f : Nat → Nat) : Nat → Nat
  | 0 => 0
  | n + 1 => lsum W f n + W (n % 26) * f n
def csum (B : Nat → Nat) (nt : Nat) (f : Nat → Nat) : Nat → Nat
  | 0 => 0
  | n + 1 => csum B nt f n + bsum B nt (f n)
def TW (W : Nat → Nat) (L : LD) (x : St) : Nat := lsum W (loN x) 234 + csum (fun t => nw W (L.tn t)) L.nt (coatN x) 8
theorem lsum_c {W f g : Nat → Nat} {n : Nat} (h : ∀ i, i < n → f i = g i) : lsum W f n = lsum W g n := by
  induction n with
  | zero => rfl
  | succ n ih => rw [lsum, lsum, ih (fun i hi => h i (by omega)), h n (by omega)]
theorem csum_c {B f g : Nat → Nat} {nt n : Nat} (h : ∀ i, i < n → f i = g i) : csum B nt f n = csum B nt g n := by
  induction n with
  | zero => rfl
  | succ n ih => rw [csum, csum, ih (fun i hi => h i (by omega)), h n (by omega)]
theorem lsum_u {W f g : Nat → Nat} {n i : Nat} (hi : i < n) (h : ∀ j, j < n → j ≠ i → g j = f j) : lsum W g n + W (i % 26) * f i = lsum W f n + W (i % 26) * g i := by
  induction n with
  | zero => omega
  | succ n ih =>
    rw [lsum, lsum]
    by_cases c : i = n
    · subst c
      rw [lsum_c (g := f) (fun j hj => h j (by omega) (by omega))]
      omega
    · have := ih (by omega) (fun j hj hne => h j (by omega) hne)
      rw [h n (by omega) (by omega)]
      omega
theorem csum_u {B f g : Nat → Nat} {nt n i : Nat} (hi : i < n) (h : ∀ j, j < n → j ≠ i → g j = f j) : csum B nt g n + bsum B nt (f i) = csum B nt f n + bsum B nt (g i) := by
  induction n with
  | zero => omega
  | succ n ih =>
    rw [csum, csum]
    by_cases c : i = n
    · subst c
      rw [csum_c (g := f) (fun j hj => h j (by omega) (by omega))]
      omega
    · have := ih (by omega) (fun j hj hne => h j (by omega) hne)
      rw [h n (by omega) (by omega)]
      omega
theorem lsum_ge {f : Nat → Nat} {n i : Nat} (hi : i < n) : f i ≤ lsum (fun _ => 1) f n := by
  induction n with
  | zero => omega
  | succ n ih =>
    rw [lsum, Nat.one_mul]
    by_cases c : i = n
    · rw [c]; omega
    · have := ih (by omega); omega
theorem bsum_one {B : Nat → Nat} {n t c c' : Nat} (ht : t < n) (h0 : c.testBit t = false) (h1 : c'.testBit t = true) (h : ∀ j, j ≠ t → c'.testBit j = c.testBit j) : bsum B n c' = bsum B n c + B t := by
  induction n with
  | zero => omega
  | succ n ih =>
    rw [bsum, bsum]
    by_cases e : t = n
    · subst e
      have : bsum B t c' = bsum B t c := by
        have k : ∀ j, j ≤ t → bsum B j c' = bsum B j c := by
          intro j
          induction j with
          | zero => intro _; rfl
          | succ j ihj => intro hj; rw [bsum, bsum, ihj (by omega), h j (by omega)]
        exact k t (Nat.le_refl _)
      rw [this, h0, h1, if_pos rfl, if_neg (by decide)]
      omega
    · rw [ih (by omega), h n (by omega)]
      omega
section Tot
variable {ld bk : Nat} {L : LD} {x m : St}
theorem TW_c {W : Nat → Nat} {x' : St} (h7 : ∀ k, gI x' 7 k = gI x 7 k) (h8 : ∀ k, gI x' 8 k = gI x 8 k) : TW W L x' = TW W L x := by
  unfold TW
  rw [lsum_c (g := loN x) (fun i _ => by rw [loN, loN, h8]), csum_c (g := coatN x) (fun i _ => by rw [coatN, coatN, h7])]
theorem lo_e (h : K ld bk L x m) {i : Nat} (hi : i < 234) : gI x 8 i = nI (loN x i) ∧ gI m 36 i = nI (loN x i) ∧ loN x i ≤ 9999 := by
  obtain ⟨c, hc, e1, e2⟩ := h.2.2.2.2.2.2.2.2.2.1 i hi
  have : loN x i = c := by rw [loN, e1, nI_clamp (by omega)]
  rw [this]; exact ⟨e1, e2, hc⟩
theorem change_X {r k : Nat} (hr : r ≤ 8) (hk : k < 26) (d : Int32) (σ : St) : f_X2_change (nI r) (nI k) d σ = some ((), sI σ 8 (26 * r + k) (gI σ 8 (26 * r + k) + d)) := by
  rw [e_X2_change, if_neg (nI_pos (by omega)), if_neg (show ¬ (8 : Int32) < nI r from nI_nlt (a := 8) hr (by omega)), if_neg (nI_pos (by omega)), if_neg (show ¬ (26 : Int32) ≤ nI k from nI_ge (b := 26) hk (by omega)), show (26 : Int32) = nI 26 from rfl, pk_mul, nI_add, Nat.mul_comm r 26]
  dsimp only [ltt]
  rw [if_pos (inb_nI (by omega) (by omega)), if_pos (inb_nI (by omega) (by omega)), ix_nI (by omega)]
/-- a coat's cell alone is changed -/
theorem TW_coat {W : Nat → Nat} {x' : St} {p : Nat} (hp : p < 8) (h7 : ∀ k, k ≠ p → gI x' 7 k = gI x 7 k) (h8 : ∀ k, gI x' 8 k = gI x 8 k) : TW W L x' + bsum (fun t => nw W (L.tn t)) L.nt (coatN x p) = TW W L x + bsum (fun t => nw W (L.tn t)) L.nt (coatN x' p) := by
  unfold TW
  rw [lsum_c (g := loN x) (fun i _ => by rw [loN, loN, h8])]
  have := csum_u (B := fun t => nw W (L.tn t)) (nt := L.nt) (f := coatN x) (g := coatN x') hp (fun j _ hj => by rw [coatN, coatN, h7 j hj])
  omega
theorem TW_lo {W : Nat → Nat} {x' : St} {i : Nat} (hi : i < 234) (h7 : ∀ k, gI x' 7 k = gI x 7 k) (h8 : ∀ k, k ≠ i → gI x' 8 k = gI x 8 k) : TW W L x' + W (i % 26) * loN x i = TW W L x + W (i % 26) * loN x' i := by
  unfold TW
  rw [csum_c (g := coatN x) (fun i _ => by rw [coatN, coatN, h7])]
  have := lsum_u (W := W) (f := loN x) (g := loN x') hi (fun j _ hj => by rw [loN, loN, h8 j hj])
  omega
/-- a title leaves a coat -/
theorem goB (h : K ld bk L x m) {p t : Nat} (hp : p < L.np) (ht : t < L.nt) (hh : hasT x p t = true) : ∃ x' m', f_X2_go (nI p) (nI t) x = some ((), x') ∧ f_X11_goes (nI p) (nI t) m = some ((), m') ∧ K ld bk L x' m' ∧ coatN x' p = coatN x p ^^^ 2 ^ t ∧ (∀ k, k ≠ p → gI x' 7 k = gI x 7 k) ∧ (∀ W, TW W L x' + nw W (L.tn t) = TW W L x) ∧ (∀ o k, o ≠ 7 → o ≠ 14 → ¬ (o = 13 ∧ (k = 3 ∨ k = 4)) → gI x' o k = gI x o k) ∧ ∀ o k, o ≠ 35 → o ≠ 42 → ¬ (o = 0 ∧ k = 64) → gI m' o k = gI m o k := by
  obtain ⟨-, hs, hb, hl, hw, hd⟩ := id h
  have h8 := hl.1.1
  have h12 := hl.2.1.1
  obtain ⟨cN, c4, cx, cm⟩ := coat_cN hl hd (p := p) (by omega)
  have hbit : (coatN x p).testBit t = true := hh
  have hsub : 2 ^ t &&& coatN x p = 2 ^ t := sub_of (fun q e => by
    rw [Nat.testBit_two_pow, decide_eq_true_iff] at e
    rw [← e]; exact hbit)
  have hlt : coatN x p ^^^ 2 ^ t < coatN x p := rest_lt hsub (Nat.two_pow_pos t)
  have key : nI (coatN x p) &&& (((1 : Int32) <<< (nI t &&& 31)) ^^^ (-1 : Int32)) = nI (coatN x p ^^^ 2 ^ t) := by rw [p2_I (by omega), rest_I hsub]
  have k1 := h.coat (p := p) (c := coatN x p ^^^ 2 ^ t) (by omega) (by omega) (fun q => by omega)
  obtain ⟨x', m', e1, e2, k2, fx, fm⟩ := spanB k1 hp ht
  have c7 : ∀ k, gI x' 7 k = gI (sI x 7 p (nI (coatN x p ^^^ 2 ^ t))) 7 k := fun k => fx 7 k (by decide) (by omega)
  have cn : coatN x' p = coatN x p ^^^ 2 ^ t := by rw [coatN, c7, gI_sI, if_pos ⟨rfl, rfl⟩, nI_clamp (by omega)]
  have c7' : ∀ k, k ≠ p → gI x' 7 k = gI x 7 k := fun k hk => by rw [c7, gI_sI, if_neg (fun q => hk q.2)]
  have c8 : ∀ k, gI x' 8 k = gI x 8 k := fun k => by rw [fx 8 k (by decide) (by omega), gI_sI, if_neg (by omega)]
  refine ⟨x', m', ?_, ?_, k2, cn, c7', fun W => ?_, fun o k h1 h2 h3 => by rw [fx o k h2 h3, gI_sI, if_neg (fun q => h1 q.1)], fun o k h1 h2 h3 => by rw [fm o k h2 h3, gI_sI, if_neg (fun q => h1 q.1)]⟩
  · rw [e_X2_go, bears_X hs hl hd hp ht, hh]
    dsimp only [Option.bind]
    rw [if_neg (by decide), inb_nI (show p < 8 by omega) (by omega), if_pos rfl, if_pos rfl, ix_nI (by omega), cx, key]
    exact e1
  · rw [e_X11_goes, inb_nI (show p < 8 by omega) (by omega), if_pos rfl, if_pos rfl, ix_nI (by omega), cm, key]
    exact e2
  · have t1 := TW_coat (W := W) (L := L) (x := x) (x' := x') (p := p) (by omega) c7' c8
    have t2 := bsum_one (B := fun t => nw W (L.tn t)) (n := L.nt) (t := t) (c := coatN x' p) (c' := coatN x p) ht (by rw [cn, rest_t hsub, Nat.testBit_two_pow_self, hbit]; rfl) hbit (fun j hj => by
      rw [cn, rest_t hsub, Nat.testBit_two_pow, decide_eq_false (fun e => hj e.symm)]
      cases (coatN x p).testBit j <;> rfl)
    omega
/-- a title comes into a coat -/
theorem comeB (h : K ld bk L x m) {p t : Nat} (hp : p < L.np) (ht : t < L.nt) (hh : hasT x p t = false) : ∃ x' m', f_X2_come (nI p) (nI t) x = some ((), x') ∧ f_X11_comes (nI p) (nI t) m = some ((), m') ∧ K ld bk L x' m' ∧ coatN x' p = coatN x p ||| 2 ^ t ∧ (∀ k, k ≠ p → gI x' 7 k = gI x 7 k) ∧ (∀ W, TW W L x' = TW W L x + nw W (L.tn t)) ∧ (∀ o k, o ≠ 7 → o ≠ 10 → gI x' o k = gI x o k) ∧ ∀ o k, o ≠ 35 → o ≠ 43 → gI m' o k = gI m o k := by
  obtain ⟨-, hs, hb, hl, hw, hd⟩ := id h
  have h8 := hl.1.1
  have h12 := hl.2.1.1
  obtain ⟨cN, c4, cx, cm⟩ := coat_cN hl hd (p := p) (by omega)
  obtain ⟨y, hy, y1, y2⟩ := hd.1
  have hbit : (coatN x p).testBit t = false := hh
  have hlt : coatN x p ||| 2 ^ t < 2 ^ L.nt := Nat.or_lt_two_pow cN (Nat.pow_lt_pow_right (by omega) ht)
  have hlt2 : 2 ^ L.nt ≤ 2 ^ 12 := Nat.pow_le_pow_right (by omega) h12
  have key : nI (coatN x p) ||| ((1 : Int32) <<< (nI t &&& 31)) = nI (coatN x p ||| 2 ^ t) := by rw [p2_I (by omega), nI_or]
  have k1 := h.coat (p := p) (c := coatN x p ||| 2 ^ t) (by omega) hlt (fun q => by omega)
  have k2 := k1.since hp ht hy
  have cn : coatN (sI (sI x 7 p (nI (coatN x p ||| 2 ^ t))) 10 (12 * p + t) (nI y)) p = coatN x p ||| 2 ^ t := by rw [coatN, gI_sI, if_neg (by omega), gI_sI, if_pos ⟨rfl, rfl⟩, nI_clamp (by omega)]
  have c7' : ∀ k, k ≠ p → gI (sI (sI x 7 p (nI (coatN x p ||| 2 ^ t))) 10 (12 * p + t) (nI y)) 7 k = gI x 7 k := fun k hk => by rw [gI_sI, if_neg (by omega), gI_sI, if_neg (fun q => hk q.2)]
  have c8 : ∀ k, gI (sI (sI x 7 p (nI (coatN x p ||| 2 ^ t))) 10 (12 * p + t) (nI y)) 8 k = gI x 8 k := fun k => by rw [gI_sI, if_neg (by omega), gI_sI, if_neg (by omega)]
  refine ⟨_, _, ?_, ?_, k2, cn, c7', fun W => ?_, fun o k h1 h2 => by rw [gI_sI, if_neg (fun q => h2 q.1), gI_sI, if_neg (fun q => h1 q.1)], fun o k h1 h2 => by rw [gI_sI, if_neg (fun q => h2 q.1), gI_sI, if_neg (fun q => h1 q.1)]⟩
  · rw [e_X2_come, lacks_X hs hl hd hp ht, hh]
    dsimp only [Option.bind]
    rw [if_neg (by decide), inb_nI (show p < 8 by omega) (by omega), if_pos rfl, if_pos rfl, ix_nI (by omega), cx, key, show (12 : Int32) = nI 12 from rfl, pk_mul, nI_add, Nat.mul_comm p 12]
    dsimp only [ltt]
    rw [if_pos (inb_nI (by omega) (by omega)), ix_nI (by omega), gI_sI, if_neg (by omega), y1]
  · rw [e_X11_comes, inb_nI (show p < 8 by omega) (by omega), if_pos rfl, if_pos rfl, ix_nI (by omega), cm, key, show (12 : Int32) = nI 12 from rfl, pk_mul, nI_add]
    dsimp only [ltt]
    rw [if_pos (inb_nI (by omega) (by omega)), ix_nI (by omega), gI_sI, if_neg (by omega), y2]
  · have t1 := TW_coat (W := W) (L := L) (x := x) (x' := sI (sI x 7 p (nI (coatN x p ||| 2 ^ t))) 10 (12 * p + t) (nI y)) (p := p) (by omega) c7' c8
    have t2 := bsum_one (B := fun t => nw W (L.tn t)) (n := L.nt) (t := t) (c := coatN x p) (c' := coatN (sI (sI x 7 p (nI (coatN x p ||| 2 ^ t))) 10 (12 * p + t) (nI y)) p) ht hbit (by rw [cn, Nat.testBit_or, Nat.testBit_two_pow_self, Bool.or_true]) (fun j hj => by
      rw [cn, Nat.testBit_or, Nat.testBit_two_pow, decide_eq_false (fun e => hj e.symm), Bool.or_false])
    omega
end Tot
