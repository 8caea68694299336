/-! ===== title; what person needs ===== -/
def bearS (x : St) (L : LD) (t : Nat) : Int32 := itr (fun a p => if hasT x p t = true then a ||| ((1 : Int32) <<< (nI p &&& 31)) else a) L.np 0 0
section Title
variable {ld bk : Nat} {L : LD} {x m : St}
theorem nameT_X (hs : RSt ld x) (hl : RLa ld bk L x m) {t : Nat} (ht : t < L.nt) : f_X8_name (ld + 4) (nI t) x = some (nI (pk5 (L.tn t)), x) := by
  have h12 := hl.2.1.1
  rw [e_X8_name, holdsT_X hl, inb_nI ht (by omega)]
  dsimp only [Option.bind]
  rw [if_neg (by decide), (lnL hs).2.2.1, if_pos (inb_nI (by omega) (by omega)), ix_nI (by omega)]
  exact congrArg (fun w => some (w, x)) (hl.2.2.2.2.2.2.1 t ht).1.2.2.2.1
theorem nmT (hl : RLa ld bk L x m) {t : Nat} (ht : t < L.nt) : 1 ≤ (L.tn t).length ∧ (L.tn t).length ≤ 6 ∧ ∀ c ∈ L.tn t, c < 26 := by
  obtain ⟨⟨h1, h6, hc, -, -⟩, -⟩ := hl.2.2.2.2.2.2.1 t ht
  exact ⟨h1, h6, hc⟩
theorem bearers_X (hs : RSt ld x) (hl : RLa ld bk L x m) (hd : RDy L x m) {t : Nat} (ht : t < L.nt) : f_X2_bearers (nI t) x = some (bearS x L t, x) := by
  have h8 := hl.1.1
  rw [e_X2_bearers]
  refine loop_fu (fun n a i => f_X2_bearers_4 n (nI t) a (nI i) x) _ (fun a => some (a, x)) L.np (by omega) ?_ ?_ 0
  · intro n a
    rw [e_X2_bearers_4]
    dsimp only [ltt]
    rw [hs.1, if_pos (landB_of hs.2.1), hl.1.2.1, if_pos (nI_le (Nat.le_refl _) (by omega))]
  · intro n a i hi
    rw [e_X2_bearers_4]
    dsimp only [ltt]
    rw [hs.1, if_pos (landB_of hs.2.1), hl.1.2.1, if_neg (nI_ge hi (by omega)), bears_X hs hl hd hi ht, nI_1]
    dsimp only [Option.bind]
    cases hasT x i t
    · rw [if_pos (by decide), if_neg (by decide)]
    · rw [if_neg (by decide), if_pos rfl]
theorem title_M (hb : RBk bk m) (hl : RLa ld bk L x m) (hd : RDy L x m) {t : Nat} (ht : t < L.nt) (b : Int32) : f_X11_title__15 FU (nI t) b 0 0 m = (if b = 0 then ((f_X11_ouncesOf (nI t) m).bind fun q1 => some (q1.1, q1.2)) else (if b = (1 : Int32) then ((f_X11_honourOf (nI t) m).bind fun q2 => some (q2.1, q2.2)) else (if b = (2 : Int32) then ((f_X11_lengthOf (nI t) m).bind fun q3 => some (q3.1, q3.2)) else (if b = (3 : Int32) then (some (bearS x L t, m)) else (some ((-1 : Int32), m)))))) := by
  have h8 := hl.1.1
  have h12 := hl.2.1.1
  refine loop_fu (fun n a i => f_X11_title__15 n (nI t) b a (nI i) m) _ (fun a => (if b = 0 then ((f_X11_ouncesOf (nI t) m).bind fun q1 => some (q1.1, q1.2)) else (if b = (1 : Int32) then ((f_X11_honourOf (nI t) m).bind fun q2 => some (q2.1, q2.2)) else (if b = (2 : Int32) then ((f_X11_lengthOf (nI t) m).bind fun q3 => some (q3.1, q3.2)) else (if b = (3 : Int32) then (some (a, m)) else (some ((-1 : Int32), m))))))) L.np (by omega) ?_ ?_ 0
  · intro n a
    rw [e_X11_title__15, hb.2, if_pos (bk_ix hb.1).1, (bk_ix hb.1).2, hl.1.2.2, if_pos (nI_le (Nat.le_refl _) (by omega))]
  · intro n a i hi
    rw [e_X11_title__15, hb.2, if_pos (bk_ix hb.1).1, (bk_ix hb.1).2, hl.1.2.2, if_neg (nI_ge hi (by omega)), hasT_M hl hd (by omega) (by omega), nI_1]
    dsimp only [Option.bind, ltt]
    cases hasT x i t
    · rw [if_pos (by decide), if_neg (by decide), Int32.or_zero]
    · rw [if_neg (by decide), if_pos rfl]
end Title
theorem step7 (LW : Nat → Nat → LD → St → St → Prop) : Step_7 (RelOf (RelB LW)) := by
  intro a b x m h
  obtain ⟨hA, ld, bk, L, s1, hb, hla, hw, hd⟩ := id h
  have h12 := hla.2.1.1
  have done : ∀ r, f_X10_title a b x = some (r, x) → f_X11_title_ a b m = some (r, m) → ∃ r σx' σm', f_X10_title a b x = some (r, σx') ∧ f_X11_title_ a b m = some (r, σm') ∧ RelOf (RelB LW) σx' σm' := fun r h1 h2 => ⟨r, x, m, h1, h2, h⟩
  have X := e_X10_title a b x
  have M := e_X11_title_ a b m
  dsimp only [ltt] at X
  rw [s1.1, if_pos (landB_of s1.2.1), holdsT_X hla] at X
  rw [isT_M hb hla] at M
  dsimp only [Option.bind] at X M
  cases hp : inb a L.nt
  · rw [hp, if_pos (by decide)] at X M
    exact done _ X M
  · obtain ⟨t, ht, rfl⟩ := inb_of hp (by omega)
    rw [hp, if_neg (by decide)] at X M
    rw [title_M hb hla hd ht, ozT_M hb hla ht, honT_M hb hla ht, lenT_M hb hla ht] at M
    obtain ⟨-, h6, hc⟩ := nmT hla ht
    rw [e_X4_titleOunces, getT1 s1 hla ht, getT0 s1 hla ht, nameT_X s1 hla ht, bearers_X s1 hla hd ht] at X
    dsimp only [Option.bind] at X M
    rw [len_X hc h6] at X
    dsimp only at X
    by_cases c0 : b = 0
    · rw [if_pos c0] at X M; exact done _ X M
    by_cases c1 : b = 1
    · rw [if_neg c0, if_pos c1] at X M; exact done _ X M
    by_cases c2 : b = 2
    · rw [if_neg c0, if_neg c1, if_pos c2] at X M; exact done _ X M
    by_cases c3 : b = 3
    · rw [if_neg c0, if_neg c1, if_neg c2, if_pos c3] at X M; exact done _ X M
    rw [if_neg c0, if_neg c1, if_neg c2, if_neg c3] at X M
    exact done _ X M
def ageS (x : St) (ld p : Nat) : Int32 := if 0 < gI x 6 1 - gI x (ld + 3) (3 * p) then gI x 6 1 - gI x (ld + 3) (3 * p) else 0
def manyS (x : St) (r : Nat) : Int32 := itr (fun a k => a + gI x 8 (26 * r + k)) 26 0 0
section Pers
variable {ld bk : Nat} {L : LD} {x m : St}
theorem getP (hs : RSt ld x) (hl : RLa ld bk L x m) {p j : Nat} (hp : p < L.np) (hj : j < 3) : f_X8_get (ld + 1) (nI p) (nI j) x = some (gI x (ld + 3) (3 * p + j), x) :=
  getR hl.1.2.1 (rl1 hs).1 (by have := lnL hs; have := hl.1.1; omega) (by have := lnL hs; omega) (by omega) (by have := hl.1.1; omega) hp hj
theorem age_X (hs : RSt ld x) (hl : RLa ld bk L x m) {p : Nat} (hp : p < L.np) : f_X2_ageOf (nI p) x = some (ageS x ld p, x) := by
  have g : f_X8_get (ld + 1) (nI p) 0 x = some (gI x (ld + 3) (3 * p), x) := getP hs hl hp (j := 0) (by omega)
  rw [e_X2_ageOf]
  dsimp only [ltt]
  rw [hs.1, if_pos (landB_of hs.2.1), g]
  dsimp only [Option.bind]
  rw [e_J9_max_7cf53, ageS]
  by_cases c : 0 < gI x 6 1 - gI x (ld + 3) (3 * p)
  · rw [if_pos c, if_pos c]
  · rw [if_neg c, if_neg c]
theorem age_M (hb : RBk bk m) (hl : RLa ld bk L x m) (hd : RDy L x m) {p : Nat} (hp : p < L.np) : f_X11_ageOf (nI p) m = some (ageS x ld p, m) := by
  have h8 := hl.1.1
  have hbk := hb.1
  obtain ⟨y, hy, y1, y2⟩ := hd.1
  obtain ⟨-, ⟨k, hk, k1, k2⟩, -⟩ := hl.2.2.2.2.2.1 p hp
  rw [e_X11_ageOf, hb.2, show (8 : Int32) = nI 8 from rfl, pk_mul, nI_add, if_pos (inb_nI (by omega) (by omega)), ix_nI (by omega), k2, y2, ageS, y1, k1]
  dsimp only [ltt]
  rcases Nat.lt_trichotomy k y with q | q | q
  · have e := pk_sub (a := y) (b := k) (by omega)
    rw [e, if_pos (nI_pos' (by omega)), if_pos (show (0 : Int32) < nI (y - k) from nI_lt (a := 0) (by omega) (by omega))]
  · subst q
    have e := pk_sub (a := k) (b := k) (by omega)
    rw [e, Nat.sub_self, if_pos (by decide), if_neg (by decide)]
    rfl
  · have e := pk_sneg (a := y) (b := k) (by omega) q
    rw [if_neg (Int32.not_le.mpr e), if_neg (fun w => Int32.lt_irrefl (Int32.lt_trans w e))]
theorem many_X {r : Nat} (hr : r ≤ 8) : f_X2_looseLetters (nI r) x = some (manyS x r, x) := by
  rw [e_X2_looseLetters]
  refine loop_fu (fun n a i => f_X2_looseLetters_4 n (nI r) a (nI i) x) _ (fun a => some (a, x)) 26 (by omega) ?_ ?_ 0
  · intro n a
    rw [e_X2_looseLetters_4, if_pos (show (26 : Int32) ≤ nI 26 by decide)]
  · intro n a i hi
    rw [e_X2_looseLetters_4, if_neg (show ¬ (26 : Int32) ≤ nI i from nI_ge (b := 26) hi (by omega)), count_X hr hi, nI_1]
    rfl
theorem many_M (hd : RDy L x m) {r : Nat} (hr : r ≤ 8) : f_X11_looseMany (nI r) m = some (manyS x r, m) := by
  rw [e_X11_looseMany]
  refine loop_fu (fun n a i => f_X11_looseMany_4 n (nI r) a (nI i) m) _ (fun a => some (a, m)) 26 (by omega) ?_ ?_ 0
  · intro n a
    rw [e_X11_looseMany_4, if_pos (show (26 : Int32) ≤ nI 26 by decide)]
  · intro n a i hi
    obtain ⟨c, -, g1, g2⟩ := hd.2.2.2.2.1 (26 * r + i) (by omega)
    rw [e_X11_looseMany_4, if_neg (show ¬ (26 : Int32) ≤ nI i from nI_ge (b := 26) hi (by omega)), show (26 : Int32) = nI 26 from rfl, pk_mul, nI_add, if_pos (inb_nI (by omega) (by omega)), ix_nI (by omega), nI_1, g1, g2]
    rfl
theorem hon_X (hs : RSt ld x) (hl : RLa ld bk L x m) (hd : RDy L x m) {p : Nat} (hp : p < 8) : f_X2_honourOf (nI p) x = some (sumT (honT x ld) (coatN x p) L.nt, x) := by
  rw [e_X2_honourOf]
  dsimp only [ltt]
  rw [hs.1, if_pos (landB_of hs.2.1), titlesOf_X hl hd hp]
  dsimp only [Option.bind]
  rw [honS_X hs hl (by have := (coat_cN hl hd hp).2.1; omega)]
end Pers
