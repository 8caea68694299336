/-! ===== is the row of numbers light enough ===== -/
section Light
variable {ld bk : Nat} {L : LD} {x m : St} {n0 : Nat}
def rS (x : St) (W : Nat → Nat) (a : Nat) : Nat := lsum W (fun k => tw2 x (a + 2 * k)) 26
def lnN (L : LD) (t : Nat) : Nat := (L.tn t).length
def pL (x : St) (ld : Nat) (L : LD) (p : Nat) : Nat := bsum (fun t => nw (ozN x ld) (L.tn t)) L.nt (tw2 x (2 + 54 * p)) + rS x (ozN x ld) (4 + 54 * p)
def pT (x : St) (L : LD) (p : Nat) : Nat := bsum (lnN L) L.nt (tw2 x (2 + 54 * p)) + rS x (fun _ => 1) (4 + 54 * p)
def hS (L : LD) : Nat := 2 + 54 * L.np
def bS (x : St) (L : LD) (i : Nat) : Nat := tw2 x (hS L + 56 + 2 * i)
def rivT (x : St) (L : LD) : Nat := 65536 * tb x (hS L + 52) + tw2 x (hS L + 53)
def LEAD (x : St) (ld : Nat) (L : LD) (nb : Nat) : Nat := rivT x L + btot (bS x L) nb + btot (pL x ld L) L.np + rS x (ozN x ld) (hS L)
def LETT (x : St) (L : LD) : Nat := btot (pT x L) L.np + rS x (fun _ => 1) (hS L)
theorem rowAt_M (h : K ld bk L x m) (h0 : RelA n0 x m) {a : Nat} (ha : a + 52 ≤ 1600) (b : Int32) : f_X11_rowAt (nI a) b m = some (lN (rS x (if b = 0 then (fun _ => 1) else ozN x ld) a), m) := by
  have hb := h.2.2.1
  have hl := h.2.2.2.1
  rw [e_X11_rowAt]
  obtain ⟨y, ey, e⟩ := loop_exF (fun n (y : Int64) i => f_X11_rowAt_5 n (nI a) b y (nI i) m) (fun y => some (y, m)) 26 (by omega) (fun i y => y = lN (lsum (if b = 0 then (fun _ => 1) else ozN x ld) (fun k => tw2 x (a + 2 * k)) i)) (fun n y hy => by
    rw [e_X11_rowAt_5, if_pos (by decide)]) (fun n y i hi hy => by
    refine ⟨_, ?_, rfl⟩
    have tl := tw2_le h0 (i := a + 2 * i) (by omega)
    rw [e_X11_rowAt_5, if_neg (show ¬ (26 : Int32) ≤ nI i from nI_ge (b := 26) hi (by omega)), show (2 : Int32) = nI 2 from rfl, pk_mul, nI_add, two_M h0 (fun _ => rfl) (by omega)]
    dsimp only [Option.bind, ltt]
    rw [nI_l (by omega), nI_1, lsum, Nat.mod_eq_of_lt hi, hy]
    by_cases c : b = 0
    · rw [if_pos c, if_pos c, show ((1 : Int32)).toInt64 = lN 1 from rfl, lN_mul, lN_add, Nat.mul_comm]
    · rw [if_neg c, if_neg c, weight_M hb hi, (oz_e hl hi).2.1]
      dsimp only
      rw [nI_l (by have := (oz_e hl hi).2.2; omega), lN_mul, lN_add, Nat.mul_comm (tw2 x (a + 2 * i))]) 0 rfl
  refine Eq.trans e ?_
  rw [ey]
  rfl
theorem l155 (h : K ld bk L x m) (h0 : RelA n0 x m) (KX : Nat → Int64 → Int64 → Int32 → St → Option (Int32 × St)) {a s : Nat} (ha : s + (if a = 0 then 2 else 0) + 52 ≤ 1600) (Y Z : Nat) (p : Int32) : f_X3_isLightEnough_155 1 KX FU ld (lN Y) (lN Z) p (nI s) (nI a) 0 x = KX ld (lN (Y + rS x (ozN x ld) (s + (if a = 0 then 2 else 0)))) (lN (Z + rS x (fun _ => 1) (s + (if a = 0 then 2 else 0)))) (p + 1) x ∨ ¬ a < 2 := by
  by_cases a2 : a < 2
  · left
    have hl := h.2.2.2.1
    obtain ⟨y, ey, e⟩ := loop_exF (fun n (y : Int64 × Int64) i => f_X3_isLightEnough_155 1 KX n ld y.1 y.2 p (nI s) (nI a) (nI i) x) (fun y => KX ld y.1 y.2 (p + 1) x) 26 (by omega) (fun i y => y = (lN (Y + lsum (ozN x ld) (fun k => tw2 x (s + (if a = 0 then 2 else 0) + 2 * k)) i), lN (Z + lsum (fun _ => 1) (fun k => tw2 x (s + (if a = 0 then 2 else 0) + 2 * k)) i))) (fun n y hy => by
      rw [e_X3_isLightEnough_155, if_pos (by decide)]) (fun n y i hi hy => by
      refine ⟨_, ?_, rfl⟩
      have oz := oz_e hl hi
      rw [e_X3_isLightEnough_155, if_neg (show ¬ (26 : Int32) ≤ nI i from nI_ge (b := 26) hi (by omega)), hy]
      by_cases c : a = 0
      · simp only [if_pos c] at ha ⊢
        have tl := tw2_le h0 (i := s + 2 + 2 * i) (by omega)
        rw [if_pos (show nI a = 0 by rw [c]; rfl), show (2 : Int32) = nI 2 from rfl, pk_mul, nI_add, nI_add]
        have nx : f_X3_number 1 (nI (s + 2 + 2 * i)) (nI 2) x = some (nI (tw2 x (s + 2 + 2 * i)), x) := num2_X h0 (fun _ => rfl) (by omega)
        rw [nx]
        dsimp only [Option.bind]
        rw [ouncesOf_X hi, oz.1]
        dsimp only [ltt]
        rw [nI_l (by omega), nI_l (by omega), lN_mul, lN_add, lN_add, nI_1, lsum, lsum, Nat.mod_eq_of_lt hi, Nat.one_mul, Nat.mul_comm (tw2 x (s + 2 + 2 * i)), Nat.add_assoc Y, Nat.add_assoc Z]
      · simp only [if_neg c] at ha ⊢
        have tl := tw2_le h0 (i := s + 0 + 2 * i) (by omega)
        rw [if_neg (nI_ne0 (by omega) (by omega)), show (0 : Int32) = nI 0 from rfl, show (2 : Int32) = nI 2 from rfl, pk_mul, nI_add, nI_add]
        have nx : f_X3_number 1 (nI (s + 0 + 2 * i)) (nI 2) x = some (nI (tw2 x (s + 0 + 2 * i)), x) := num2_X h0 (fun _ => rfl) (by omega)
        rw [nx]
        dsimp only [Option.bind]
        rw [ouncesOf_X hi, oz.1]
        dsimp only [ltt]
        rw [nI_l (by omega), nI_l (by omega), lN_mul, lN_add, lN_add, nI_1, lsum, lsum, Nat.mod_eq_of_lt hi, Nat.one_mul, Nat.mul_comm (tw2 x (s + 0 + 2 * i)), Nat.add_assoc Y, Nat.add_assoc Z]) (lN Y, lN Z) rfl
    refine Eq.trans e ?_
    rw [ey]
    rfl
  · exact Or.inr a2
theorem lset_X (hs : RSt ld x) (hl : RLa ld bk L x m) {c : Nat} (hc : c < 2 ^ 31) : f_X3_lettersOfSet ld (nI c) x = some (nI (bsum (lnN L) L.nt c), x) := by
  have h12 := hl.2.1.1
  rw [e_X3_lettersOfSet]
  obtain ⟨y, ey, e⟩ := loop_exF (fun n (y : Int32) i => f_X3_lettersOfSet_4 ld n (nI c) y (nI i) x) (fun y => some (y, x)) L.nt (by omega) (fun i y => y = nI (bsum (lnN L) i c)) (fun n y hy => by
    rw [e_X3_lettersOfSet_4, hl.2.1.2.1, if_pos (nI_le (Nat.le_refl _) (by omega))]) (fun n y i hi hy => by
    refine ⟨_, ?_, rfl⟩
    obtain ⟨p1, p6, hcc⟩ := nmT hl hi
    rw [e_X3_lettersOfSet_4, hl.2.1.2.1, if_neg (nI_ge hi (by omega)), bit_I hc (by omega), nI_1, hy, bsum]
    cases c.testBit i
    · rw [if_pos (by decide), if_neg (by decide), show (0 : Int32) = nI 0 from rfl]
      dsimp only [ltt]
      rw [nI_add]
    · rw [if_neg (by decide), if_pos rfl, nameT_X hs hl hi]
      dsimp only [Option.bind]
      rw [len_X hcc p6]
      dsimp only [ltt]
      rw [nI_add]
      rfl) 0 rfl
  refine Eq.trans e ?_
  rw [ey]
theorem bs0 (B : Nat → Nat) (j : Nat) : bsum B j 0 = 0 := by
  induction j with
  | zero => rfl
  | succ j ih => rw [bsum, ih, Nat.zero_testBit]; rfl
theorem lnb (hl : RLa ld bk L x m) (c : Nat) : bsum (lnN L) L.nt c ≤ 72 := by
  have h1 := bsum_le (lnN L) L.nt c
  have h2 := btot_le (B := lnN L) (N := L.nt) (b := 6) (fun t ht => (nmT hl ht).2.1) L.nt (Nat.le_refl _)
  have := hl.2.1.1
  omega
theorem ozS_N (hs : RSt ld x) (hl : RLa ld bk L x m) {c : Nat} (hc : c < 2 ^ 31) : f_X4_ouncesOfSet ld (nI c) x = some (nI (bsum (fun t => nw (ozN x ld) (L.tn t)) L.nt c), x) ∧ bsum (fun t => nw (ozN x ld) (L.tn t)) L.nt c ≤ 7128 := by
  have e : bsum (wN x ld) L.nt c = bsum (fun t => nw (ozN x ld) (L.tn t)) L.nt c := bsum_cg (fun t ht => wN_nw hl ht) c
  rw [← e]
  exact ⟨by rw [ozS_X hs hl hc, oz_s hl], ozb hl c⟩
theorem cmpN {a b : Nat} (ha : a < 2 ^ 62) (hb : b < 2 ^ 62) : (0 < lg_cmp (lN a) (lN b)) ↔ b < a := by
  rw [cmp_gt, pk_lT (by omega), pk_lT (by omega)]
  omega
theorem rS_le (h0 : RelA n0 x m) {W : Nat → Nat} {a : Nat} (hW : ∀ k, k < 26 → W k ≤ 99) (ha : a + 52 ≤ 1600) : rS x W a ≤ 168687090 := by
  have key : ∀ i, i ≤ 26 → lsum W (fun k => tw2 x (a + 2 * k)) i ≤ 6487965 * i := by
    intro i
    induction i with
    | zero => intro _; exact Nat.zero_le _
    | succ i ih =>
      intro hi
      have := ih (by omega)
      have h1 := hW i (by omega)
      have h2 := tw2_le h0 (i := a + 2 * i) (by omega)
      have h3 : W i * tw2 x (a + 2 * i) ≤ 99 * 65535 := Nat.mul_le_mul h1 h2
      rw [lsum, Nat.mod_eq_of_lt (by omega)]
      omega
  exact key 26 (Nat.le_refl _)
theorem bt_le {B : Nat → Nat} {b n : Nat} (hB : ∀ i, i < n → B i ≤ b) : btot B n ≤ n * b := btot_le hB n (Nat.le_refl _)
theorem sums_le (h : K ld bk L x m) (h0 : RelA n0 x m) {nb : Nat} (hnb : nb ≤ 30) : (∀ p, p < L.np → pL x ld L p ≤ 168700000) ∧ (∀ p, p < L.np → pT x L p ≤ 168700000) ∧ LEAD x ld L nb < 2 ^ 40 ∧ LETT x L < 2 ^ 40 := by
  obtain ⟨-, hs, hb, hl, hw, hd⟩ := id h
  have h8 := hl.1.1
  have oz : ∀ k, k < 26 → ozN x ld k ≤ 99 := fun k hk => (oz_e hl hk).2.2
  have p1 : ∀ p, p < L.np → pL x ld L p ≤ 168700000 := fun p hp => by
    have a1 := (ozS_N hs hl (c := tw2 x (2 + 54 * p)) (by have := tw2_le h0 (i := 2 + 54 * p) (by omega); omega)).2
    have a2 := rS_le h0 oz (a := 4 + 54 * p) (by omega)
    unfold pL
    omega
  have p2 : ∀ p, p < L.np → pT x L p ≤ 168700000 := fun p hp => by
    have a1 := lnb hl (tw2 x (2 + 54 * p))
    have a2 := rS_le h0 (W := fun _ => 1) (fun _ _ => by omega) (a := 4 + 54 * p) (by omega)
    unfold pT
    omega
  have hH : hS L = 2 + 54 * L.np := rfl
  have b1 := bt_le p1
  have b2 := bt_le p2
  have b3 : btot (bS x L) nb ≤ nb * 65535 := bt_le (fun i hi => tw2_le h0 (by omega))
  have b4 := rS_le h0 oz (a := hS L) (by omega)
  have b5 := rS_le h0 (W := fun _ => 1) (fun _ _ => by omega) (a := hS L) (by omega)
  have b6 := (tb_e h0 (i := hS L + 52) (by omega)).2.2
  have b7 := tw2_le h0 (i := hS L + 53) (by omega)
  have m1 : L.np * 168700000 ≤ 8 * 168700000 := Nat.mul_le_mul_right _ h8
  have m2 : nb * 65535 ≤ 30 * 65535 := Nat.mul_le_mul_right _ hnb
  refine ⟨p1, p2, ?_, ?_⟩
  · unfold LEAD rivT; omega
  · unfold LETT; omega
end Light
