/-! ===== loops that only read; sums; lead, title ===== -/
def itr {α : Type} (g : α → Nat → α) : Nat → α → Nat → α
  | 0, a, _ => a
  | d + 1, a, i => itr g d (g a i) (i + 1)
theorem itr_congr {α : Type} {g g' : α → Nat → α} {N : Nat} (h : ∀ a i, i < N → g a i = g' a i) : ∀ d a i, i + d ≤ N → itr g d a i = itr g' d a i := by
  intro d
  induction d with
  | zero => intros; rfl
  | succ d ih => intro a i hi; rw [itr, itr, h a i (by omega), ih _ _ (by omega)]
theorem loop_itr {α β : Type} (W : Nat → α → Nat → β) (g : α → Nat → α) (R : α → β) (N : Nat) (hx : ∀ n a, W (n + 1) a N = R a) (hs : ∀ n a i, i < N → W (n + 1) a i = W n (g a i) (i + 1)) : ∀ d i a n, i + d = N → d < n → W n a i = R (itr g d a i) := by
  intro d
  induction d with
  | zero =>
    intro i a n hi hn
    obtain ⟨n, rfl⟩ : ∃ k, n = k + 1 := ⟨n - 1, by omega⟩
    rw [show i = N by omega, hx]; rfl
  | succ d ih =>
    intro i a n hi hn
    obtain ⟨n, rfl⟩ : ∃ k, n = k + 1 := ⟨n - 1, by omega⟩
    rw [hs n a i (by omega), ih _ _ _ (by omega) (by omega)]; rfl
theorem loop_fu {α β : Type} (W : Nat → α → Nat → β) (g : α → Nat → α) (R : α → β) (N : Nat) (hN : N < 90000) (hx : ∀ n a, W (n + 1) a N = R a) (hs : ∀ n a i, i < N → W (n + 1) a i = W n (g a i) (i + 1)) (a : α) : W FU a 0 = R (itr g N a 0) :=
  loop_itr W g R N hx hs N 0 a FU (by omega) (by rw [FU_eq]; omega)
def sumT (f : Nat → Int32) (c N : Nat) : Int32 := itr (fun a i => if c.testBit i = true then a + f i else a) N 0 0
def ozT (x : St) (ld t : Nat) : Int32 := gI x (ld + 6) (2 * t + 1)
def honT (x : St) (ld t : Nat) : Int32 := gI x (ld + 6) (2 * t)
def looS (x : St) (ld r : Nat) : Int32 := itr (fun a k => a + gI x 8 (26 * r + k) * gI x (ld + 16) k) 26 0 0
def coatN (x : St) (p : Nat) : Nat := (gI x 7 p).toNatClampNeg
def loadS (x : St) (ld : Nat) (L : LD) (p : Nat) : Int32 := sumT (ozT x ld) (coatN x p) L.nt + looS x ld p
def coatsS (x : St) (ld : Nat) (L : LD) : Int32 := itr (fun a p => a + loadS x ld L p) L.np 0 0
def bulS (x : St) : Int32 := itr (fun a i => a + gI x 9 i) (gI x 6 3).toNatClampNeg 0 0
theorem coat_cN {ld bk : Nat} {L : LD} {x m : St} (hl : RLa ld bk L x m) (hd : RDy L x m) {p : Nat} (hp : p < 8) : coatN x p < 2 ^ L.nt ∧ coatN x p < 4096 ∧ gI x 7 p = nI (coatN x p) ∧ gI m 35 p = nI (coatN x p) := by
  obtain ⟨c, h1, h2, h3, h4, -⟩ := coat_c hl hd hp
  have : coatN x p = c := by rw [coatN, h3, nI_clamp (by omega)]
  rw [this]; exact ⟨h1, h2, h3, h4⟩
section Sums
variable {ld bk : Nat} {L : LD} {x m : St}
theorem lnL (hs : RSt ld x) : lnX (ld + 1 + 1) = 8 ∧ lnX (ld + 1 + 2) = 24 ∧ lnX (ld + 4 + 1) = 12 ∧ lnX (ld + 4 + 2) = 24 ∧ lnX (ld + 7 + 2) = 12 ∧ lnX (ld + 10 + 2) = 24 ∧ lnX (ld + 13 + 1) = 4 ∧ lnX (ld + 13 + 2) = 4 := by
  rcases hs.2.1 with rfl | rfl <;> exact ⟨rfl, rfl, rfl, rfl, rfl, rfl, rfl, rfl⟩
theorem rl1 (hs : RSt ld x) : gI x (ld + 1) 1 = nI 3 ∧ gI x (ld + 4) 1 = nI 2 ∧ gI x (ld + 7) 1 = nI 2 ∧ gI x (ld + 10) 1 = nI 3 ∧ gI x (ld + 13) 1 = nI 1 := by
  have h := hs.2.2.2.2.1
  rcases hs.2.1 with rfl | rfl
  · exact ⟨(h 35 (by simp [isRoll])).2, (h 38 (by simp [isRoll])).2, (h 41 (by simp [isRoll])).2, (h 44 (by simp [isRoll])).2, (h 47 (by simp [isRoll])).2⟩
  · exact ⟨(h 55 (by simp [isRoll])).2, (h 58 (by simp [isRoll])).2, (h 61 (by simp [isRoll])).2, (h 64 (by simp [isRoll])).2, (h 67 (by simp [isRoll])).2⟩
theorem getT0 (hs : RSt ld x) (hl : RLa ld bk L x m) {t : Nat} (ht : t < L.nt) : f_X8_get (ld + 4) (nI t) 0 x = some (honT x ld t, x) :=
  getR hl.2.1.2.1 (rl1 hs).2.1 (by have := lnL hs; have := hl.2.1.1; omega) (by have := lnL hs; omega) (by omega) (by have := hl.2.1.1; omega) ht (j := 0) (by omega)
theorem getT1 (hs : RSt ld x) (hl : RLa ld bk L x m) {t : Nat} (ht : t < L.nt) : f_X8_get (ld + 4) (nI t) 1 x = some (ozT x ld t, x) :=
  getR hl.2.1.2.1 (rl1 hs).2.1 (by have := lnL hs; have := hl.2.1.1; omega) (by have := lnL hs; omega) (by omega) (by have := hl.2.1.1; omega) ht (j := 1) (by omega)
theorem honS_X (hs : RSt ld x) (hl : RLa ld bk L x m) {c : Nat} (hc : c < 2 ^ 31) : f_X4_honourOfSet ld (nI c) x = some (sumT (honT x ld) c L.nt, x) := by
  have h12 := hl.2.1.1
  rw [e_X4_honourOfSet]
  refine loop_fu (fun n a i => f_X4_honourOfSet_4 ld n (nI c) a (nI i) x) _ (fun a => some (a, x)) L.nt (by omega) ?_ ?_ 0
  · intro n a
    rw [e_X4_honourOfSet_4, hl.2.1.2.1, if_pos (nI_le (Nat.le_refl _) (by omega))]
  · intro n a i hi
    rw [e_X4_honourOfSet_4, hl.2.1.2.1, if_neg (nI_ge hi (by omega)), bit_I hc (by omega), nI_1]
    cases c.testBit i
    · rw [if_pos (by decide), if_neg (by decide)]
    · rw [if_neg (by decide), if_pos rfl, getT0 hs hl hi]
      rfl
theorem ozS_X (hs : RSt ld x) (hl : RLa ld bk L x m) {c : Nat} (hc : c < 2 ^ 31) : f_X4_ouncesOfSet ld (nI c) x = some (sumT (ozT x ld) c L.nt, x) := by
  have h12 := hl.2.1.1
  rw [e_X4_ouncesOfSet]
  refine loop_fu (fun n a i => f_X4_ouncesOfSet_4 ld n (nI c) a (nI i) x) _ (fun a => some (a, x)) L.nt (by omega) ?_ ?_ 0
  · intro n a
    rw [e_X4_ouncesOfSet_4, hl.2.1.2.1, if_pos (nI_le (Nat.le_refl _) (by omega))]
  · intro n a i hi
    rw [e_X4_ouncesOfSet_4, hl.2.1.2.1, if_neg (nI_ge hi (by omega)), bit_I hc (by omega), nI_1]
    cases c.testBit i
    · rw [if_pos (by decide), if_neg (by decide)]
    · rw [if_neg (by decide), if_pos rfl, getT1 hs hl hi]
      rfl
theorem often_M (hb : RBk bk m) (hl : RLa ld bk L x m) {t k : Nat} (ht : t < L.nt) (hk : k < 26) : f_X11_often (nI t) (nI k) m = some (nI ((L.tn t).count k), m) := by
  have h12 := hl.2.1.1
  have hbk := hb.1
  obtain ⟨⟨-, h6, hc, -, e⟩, -⟩ := hl.2.2.2.2.2.2.1 t ht
  rw [e_X11_often, hb.2, show (12 : Int32) = nI 12 from rfl, pk_mul, nI_add, if_pos (inb_nI (by omega) (by omega)), ix_nI (by omega), e, pk8_r]
  dsimp only [ltt]
  have := oft_M (l := (L.tn t).reverse) (fun c h => hc c (List.mem_reverse.mp h)) (by rw [List.length_reverse]; exact h6) hk 0 FU m (by rw [FU_eq, List.length_reverse]; omega)
  rw [Nat.zero_add, List.count_reverse] at this
  exact this
theorem lenT_M (hb : RBk bk m) (hl : RLa ld bk L x m) {t : Nat} (ht : t < L.nt) : f_X11_lengthOf (nI t) m = some (nI (L.tn t).length, m) := by
  have h12 := hl.2.1.1
  have hbk := hb.1
  obtain ⟨⟨-, h6, hc, -, e⟩, -⟩ := hl.2.2.2.2.2.2.1 t ht
  rw [e_X11_lengthOf, hb.2, show (12 : Int32) = nI 12 from rfl, pk_mul, nI_add, if_pos (inb_nI (by omega) (by omega)), ix_nI (by omega), e, pk8_r]
  dsimp only [ltt]
  have := len_M (l := (L.tn t).reverse) (fun c h => hc c (List.mem_reverse.mp h)) (by rw [List.length_reverse]; exact h6) 0 FU m (by rw [FU_eq, List.length_reverse]; omega)
  rw [Nat.zero_add, List.length_reverse] at this
  exact this
theorem ozS_eq (hl : RLa ld bk L x m) {l : List Nat} (h : ∀ c ∈ l, c < 26) : ozS m 2 (26 * bk) l = ozS x (ld + 16) 0 l := by
  induction l with
  | nil => rfl
  | cons c l ih =>
    obtain ⟨o, -, -, g1, g2⟩ := hl.2.2.2.2.2.2.2.2.2 c (h c List.mem_cons_self)
    rw [ozS, ozS, ih (fun c hc => h c (List.mem_cons_of_mem _ hc)), g2, Nat.zero_add, g1]
theorem ozT_M (hb : RBk bk m) (hl : RLa ld bk L x m) {t : Nat} (ht : t < L.nt) : f_X11_ouncesOf (nI t) m = some (ozT x ld t, m) := by
  have h12 := hl.2.1.1
  have hbk := hb.1
  obtain ⟨⟨-, h6, hc, -, e⟩, -, eo⟩ := hl.2.2.2.2.2.2.1 t ht
  rw [e_X11_ouncesOf, hb.2, show (12 : Int32) = nI 12 from rfl, pk_mul, nI_add, if_pos (inb_nI (by omega) (by omega)), ix_nI (by omega), e, pk8_r]
  dsimp only [ltt]
  rw [oz_M (l := (L.tn t).reverse) (fun c h => hc c (List.mem_reverse.mp h)) (by rw [List.length_reverse]; exact h6) 0 FU m hb (by rw [FU_eq, List.length_reverse]; omega), ozS_rev, ozS_eq hl hc, Int32.zero_add, ozT, eo]
theorem honT_M (hb : RBk bk m) (hl : RLa ld bk L x m) {t : Nat} (ht : t < L.nt) : f_X11_honourOf (nI t) m = some (honT x ld t, m) := by
  have h12 := hl.2.1.1
  have hbk := hb.1
  obtain ⟨-, ⟨k, -, e1, e2⟩, -⟩ := hl.2.2.2.2.2.2.1 t ht
  rw [e_X11_honourOf, hb.2, show (12 : Int32) = nI 12 from rfl, pk_mul, nI_add, if_pos (inb_nI (by omega) (by omega)), ix_nI (by omega), e2, honT, e1]
theorem sum_M (hb : RBk bk m) (hl : RLa ld bk L x m) {c : Nat} (hc : c < 2 ^ 31) (y : Int32) : f_X11_sumOf (nI c) y m = some (sumT (if y = 0 then ozT x ld else honT x ld) c L.nt, m) := by
  have h12 := hl.2.1.1
  rw [e_X11_sumOf]
  refine loop_fu (fun n a i => f_X11_sumOf_5 n (nI c) y a (nI i) m) _ (fun a => some (a, m)) L.nt (by omega) ?_ ?_ 0
  · intro n a
    rw [e_X11_sumOf_5, hb.2, if_pos (bk_ix hb.1).1, (bk_ix hb.1).2, hl.2.1.2.2, if_pos (nI_le (Nat.le_refl _) (by omega))]
  · intro n a i hi
    rw [e_X11_sumOf_5, hb.2, if_pos (bk_ix hb.1).1, (bk_ix hb.1).2, hl.2.1.2.2, if_neg (nI_ge hi (by omega)), bit_I hc (by omega), nI_1]
    cases c.testBit i
    · rw [if_pos (by decide), if_neg (by decide)]
      dsimp only [ltt]
      rw [Int32.add_zero]
    · rw [if_neg (by decide), if_pos rfl]
      by_cases cy : y = 0
      · rw [if_pos cy, if_pos cy, ozT_M hb hl hi]
        rfl
      · rw [if_neg cy, if_neg cy, honT_M hb hl hi]
        rfl
theorem loo_X (hs : RSt ld x) {r : Nat} (hr : r ≤ 8) : f_X2_looseOunces (nI r) x = some (looS x ld r, x) := by
  rw [e_X2_looseOunces]
  refine loop_fu (fun n a i => f_X2_looseOunces_4 n (nI r) a (nI i) x) _ (fun a => some (a, x)) 26 (by omega) ?_ ?_ 0
  · intro n a
    rw [e_X2_looseOunces_4, if_pos (show (26 : Int32) ≤ nI 26 by decide)]
  · intro n a i hi
    rw [e_X2_looseOunces_4, if_neg (show ¬ (26 : Int32) ≤ nI i from nI_ge (b := 26) hi (by omega)), count_X hr hi]
    dsimp only [Option.bind, ltt]
    rw [hs.1, if_pos (landB_of hs.2.1), ouncesOf_X hi, nI_1]
theorem loo_M (hb : RBk bk m) (hl : RLa ld bk L x m) (hd : RDy L x m) {r : Nat} (hr : r ≤ 8) : f_X11_looseOunces (nI r) m = some (looS x ld r, m) := by
  rw [e_X11_looseOunces]
  refine loop_fu (fun n a i => f_X11_looseOunces_4 n (nI r) a (nI i) m) _ (fun a => some (a, m)) 26 (by omega) ?_ ?_ 0
  · intro n a
    rw [e_X11_looseOunces_4, if_pos (show (26 : Int32) ≤ nI 26 by decide)]
  · intro n a i hi
    obtain ⟨c, -, g1, g2⟩ := hd.2.2.2.2.1 (26 * r + i) (by omega)
    obtain ⟨o, -, -, o1, o2⟩ := hl.2.2.2.2.2.2.2.2.2 i hi
    rw [e_X11_looseOunces_4, if_neg (show ¬ (26 : Int32) ≤ nI i from nI_ge (b := 26) hi (by omega)), show (26 : Int32) = nI 26 from rfl, pk_mul, nI_add, if_pos (inb_nI (by omega) (by omega)), weight_M hb hi, ix_nI (by omega)]
    dsimp only [Option.bind, ltt]
    rw [g1, g2, o1, o2, nI_1]
theorem titlesOf_X (hl : RLa ld bk L x m) (hd : RDy L x m) {p : Nat} (hp : p < 8) : f_X2_titlesOf (nI p) x = some (nI (coatN x p), x) := by
  rw [e_X2_titlesOf, if_neg (nI_pos (by omega)), if_neg (show ¬ (8 : Int32) ≤ nI p from nI_ge (b := 8) hp (by omega)), if_pos (inb_nI hp (by omega)), ix_nI (by omega), (coat_cN hl hd hp).2.2.1]
theorem load_X (hs : RSt ld x) (hl : RLa ld bk L x m) (hd : RDy L x m) {p : Nat} (hp : p < 8) : f_X2_loadOf (nI p) x = some (loadS x ld L p, x) := by
  rw [e_X2_loadOf]
  dsimp only [ltt]
  rw [hs.1, if_pos (landB_of hs.2.1), titlesOf_X hl hd hp]
  dsimp only [Option.bind]
  rw [ozS_X hs hl (by have := (coat_cN hl hd hp).2.1; omega)]
  dsimp only
  rw [loo_X hs (by omega)]
  rfl
theorem load_M (hb : RBk bk m) (hl : RLa ld bk L x m) (hd : RDy L x m) {p : Nat} (hp : p < 8) : f_X11_loadOf (nI p) m = some (loadS x ld L p, m) := by
  rw [e_X11_loadOf, if_pos (inb_nI hp (by omega)), ix_nI (by omega), (coat_cN hl hd hp).2.2.2, sum_M hb hl (by have := (coat_cN hl hd hp).2.1; omega), if_pos rfl]
  dsimp only [Option.bind]
  rw [loo_M hb hl hd (by omega)]
  rfl
theorem coats_X (hs : RSt ld x) (hl : RLa ld bk L x m) (hd : RDy L x m) : f_X2_coatOunces x = some (coatsS x ld L, x) := by
  have h8 := hl.1.1
  rw [e_X2_coatOunces]
  refine loop_fu (fun n a i => f_X2_coatOunces_4 n a (nI i) x) _ (fun a => some (a, x)) L.np (by omega) ?_ ?_ 0
  · intro n a
    rw [e_X2_coatOunces_4]
    dsimp only [ltt]
    rw [hs.1, if_pos (landB_of hs.2.1), hl.1.2.1, if_pos (nI_le (Nat.le_refl _) (by omega))]
  · intro n a i hi
    rw [e_X2_coatOunces_4]
    dsimp only [ltt]
    rw [hs.1, if_pos (landB_of hs.2.1), hl.1.2.1, if_neg (nI_ge hi (by omega)), load_X hs hl hd (by omega), nI_1]
    rfl
theorem coats_M (hb : RBk bk m) (hl : RLa ld bk L x m) (hd : RDy L x m) : f_X11_coatsAll m = some (coatsS x ld L, m) := by
  have h8 := hl.1.1
  rw [e_X11_coatsAll]
  refine loop_fu (fun n a i => f_X11_coatsAll_4 n a (nI i) m) _ (fun a => some (a, m)) L.np (by omega) ?_ ?_ 0
  · intro n a
    rw [e_X11_coatsAll_4, hb.2, if_pos (bk_ix hb.1).1, (bk_ix hb.1).2, hl.1.2.2, if_pos (nI_le (Nat.le_refl _) (by omega))]
  · intro n a i hi
    rw [e_X11_coatsAll_4, hb.2, if_pos (bk_ix hb.1).1, (bk_ix hb.1).2, hl.1.2.2, if_neg (nI_ge hi (by omega)), load_M hb hl hd (by omega), nI_1]
    rfl
theorem bul_X (hd : RDy L x m) : f_X2_bulletOunces x = some (bulS x, x) := by
  obtain ⟨c, hc, e1, -, -⟩ := hd.2.2.1
  rw [e_X2_bulletOunces, bulS, e1, nI_clamp (by omega)]
  refine loop_fu (fun n a i => f_X2_bulletOunces_4 n a (nI i) x) _ (fun a => some (a, x)) c (by omega) ?_ ?_ 0
  · intro n a
    rw [e_X2_bulletOunces_4, e1, if_pos (nI_le (Nat.le_refl _) (by omega))]
  · intro n a i hi
    rw [e_X2_bulletOunces_4, e1, if_neg (nI_ge hi (by omega)), if_neg (show ¬ (30 : Int32) ≤ nI i from nI_ge (b := 30) (by omega) (by omega)), if_pos (inb_nI (by omega) (by omega)), ix_nI (by omega), nI_1]
    rfl
theorem bul_M (hd : RDy L x m) : f_X11_bulletsAll m = some (bulS x, m) := by
  obtain ⟨c, hc, e1, e2, e3⟩ := hd.2.2.1
  rw [e_X11_bulletsAll, bulS, e1, nI_clamp (by omega)]
  refine loop_fu (fun n a i => f_X11_bulletsAll_4 n a (nI i) m) _ (fun a => some (a, m)) c (by omega) ?_ ?_ 0
  · intro n a
    rw [e_X11_bulletsAll_4, e2, if_pos (nI_le (Nat.le_refl _) (by omega))]
  · intro n a i hi
    obtain ⟨b, -, -, b1, b2⟩ := e3 i hi
    rw [e_X11_bulletsAll_4, e2, if_neg (nI_ge hi (by omega)), if_pos (inb_nI (by omega) (by omega)), ix_nI (by omega), nI_1, b1, b2]
    rfl
end Sums
theorem step10 (LW : Nat → Nat → LD → St → St → Prop) : Step_10 (RelOf (RelB LW)) := by
  intro a x m h
  obtain ⟨hA, ld, bk, L, s1, hb, hla, hw, hd⟩ := id h
  obtain ⟨r, hr, r1, r2⟩ := hd.2.1
  have e8x := loo_X s1 (r := 8) (by omega)
  have e8m := loo_M hb hla hd (r := 8) (by omega)
  rw [show nI 8 = (8 : Int32) from rfl] at e8x e8m
  have done : ∀ r, f_X10_lead a x = some (r, x) → f_X11_lead a m = some (r, m) → ∃ r σx' σm', f_X10_lead a x = some (r, σx') ∧ f_X11_lead a m = some (r, σm') ∧ RelOf (RelB LW) σx' σm' := fun r h1 h2 => ⟨r, x, m, h1, h2, h⟩
  have X := e_X10_lead a x
  have M := e_X11_lead a m
  rw [coats_X s1 hla hd, e8x, bul_X hd, r1] at X
  rw [coats_M hb hla hd, e8m, bul_M hd, r2] at M
  dsimp only [Option.bind] at X M
  rw [e8x] at X
  rw [e8m] at M
  dsimp only at X M
  rw [bul_X hd, r1] at X
  rw [bul_M hd, r2] at M
  dsimp only at X M
  by_cases c0 : a = 0
  · rw [if_pos c0] at X M; exact done _ X M
  by_cases c1 : a = 1
  · rw [if_neg c0, if_pos c1] at X M; exact done _ X M
  by_cases c2 : a = 2
  · rw [if_neg c0, if_neg c1, if_pos c2] at X M; exact done _ X M
  by_cases c3 : a = 3
  · rw [if_neg c0, if_neg c1, if_neg c2, if_pos c3] at X M; exact done _ X M
  by_cases c4 : a = 4
  · rw [if_neg c0, if_neg c1, if_neg c2, if_neg c3, if_pos c4] at X M; exact done _ X M
  rw [if_neg c0, if_neg c1, if_neg c2, if_neg c3, if_neg c4] at X M
  exact done _ X M
