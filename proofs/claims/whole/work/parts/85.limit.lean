/-! ===== limitOf ===== -/
section LimitB
variable {ld bk : Nat} {L : LD} {x m : St}
def prtS (x : St) (ld : Nat) (L : LD) (age : Int32) : Int32 := itr (fun a i => if age < gI x (ld + 9) (2 * i) then a else gI x (ld + 9) (2 * i + 1)) L.na 100 0
theorem prt_N (hl : RLa ld bk L x m) (age : Int32) : ∃ k, k ≤ 200 ∧ prtS x ld L age = nI k := by
  have := itr_inv (g := fun a i => if age < gI x (ld + 9) (2 * i) then a else gI x (ld + 9) (2 * i + 1)) (P := fun _ a => ∃ k, k ≤ 200 ∧ a = nI k) (N := L.na) (fun a i hi h => by
    obtain ⟨-, ⟨k, hk, k1, -⟩⟩ := hl.2.2.2.2.2.2.2.1 i hi
    split
    · exact h
    · exact ⟨k, hk, k1⟩) L.na 100 0 (by omega) ⟨100, by omega, rfl⟩
  exact this
theorem prt_X (hs : RSt ld x) (hl : RLa ld bk L x m) (age : Int32) : f_X4_partsAt ld age x = some (prtS x ld L age, x) := by
  have h6 := hl.2.2.1.1
  have G : ∀ i j, i < L.na → j < 2 → f_X8_get (ld + 7) (nI i) (nI j) x = some (gI x (ld + 9) (2 * i + j), x) := fun i j hi hj =>
    getR (r := ld + 7) (n := L.na) (w := 2) hl.2.2.1.2.1 (rl1 hs).2.2.1 (by rw [(lnL hs).2.2.2.2.1]; omega) (by rw [(lnL hs).2.2.2.2.1]; omega) (by omega) (by omega) hi hj
  rw [e_X4_partsAt]
  refine loop_fu (fun n a i => f_X4_partsAt_5 ld n age a (nI i) x) _ (fun a => some (a, x)) L.na (by omega) ?_ ?_ 100
  · intro n a
    rw [e_X4_partsAt_5, hl.2.2.1.2.1, if_pos (nI_le (Nat.le_refl _) (by omega))]
  · intro n a i hi
    have G0 : f_X8_get (ld + 7) (nI i) 0 x = some (gI x (ld + 9) (2 * i), x) := G i 0 hi (by omega)
    have G1 : f_X8_get (ld + 7) (nI i) 1 x = some (gI x (ld + 9) (2 * i + 1), x) := G i 1 hi (by omega)
    rw [e_X4_partsAt_5, hl.2.2.1.2.1, if_neg (nI_ge hi (by omega)), G0]
    dsimp only [Option.bind]
    rw [G1, nI_1]
    dsimp only
    by_cases c : age < gI x (ld + 9) (2 * i)
    · rw [if_pos c, if_pos c]
    · rw [if_neg c, if_neg c]
theorem tell_X : ∀ j : Nat, j < 5 → ∀ (v : Int32) (σ : St), f_X0_tell (vI (-1 - (j : Int))) v σ = some ((), sI σ 17 j v) := by
  intro j hj v σ
  have fx : ∀ j : Nat, j < 5 → (-1 : Int32) - vI (-1 - (j : Int)) = nI j := by decide +kernel
  rw [e_X0_tell, fx j hj]
  dsimp only [ltt]
  rw [if_neg (nI_pos (by omega)), if_neg (show ¬ (5 : Int32) ≤ nI j from nI_ge (b := 5) hj (by omega)), if_pos (inb_nI hj (by omega)), ix_nI (by omega)]
theorem hon_c (hs : RSt ld x) {σ : St} (h : ScX x σ) (p : Nat) : sumT (honT σ ld) (coatN σ p) L.nt = sumT (honT x ld) (coatN x p) L.nt := by
  have xl : ∀ j k, j ≤ 19 → gI σ (ld + j) k = gI x (ld + j) k := by
    intro j k hj
    refine h.1 _ _ ?_
    rcases hs.2.1 with rfl | rfl <;> simp [xS] <;> omega
  have e1 : honT σ ld = honT x ld := funext fun t => xl 6 _ (by omega)
  have e2 : coatN σ p = coatN x p := by rw [coatN, coatN, h.1 7 p rfl]
  rw [e1, e2]
theorem coat_c' {σ : St} (h : ScX x σ) (p : Nat) : coatN σ p = coatN x p := by rw [coatN, coatN, h.1 7 p rfl]
theorem prt_c (hs : RSt ld x) {σ : St} (h : ScX x σ) (age : Int32) : prtS σ ld L age = prtS x ld L age := by
  have xl : ∀ j k, j ≤ 19 → gI σ (ld + j) k = gI x (ld + j) k := by
    intro j k hj
    refine h.1 _ _ ?_
    rcases hs.2.1 with rfl | rfl <;> simp [xS] <;> omega
  unfold prtS
  refine itr_congr (N := L.na) (fun a k hk => ?_) _ _ _ (by omega)
  rw [xl 9 _ (by omega), xl 9 _ (by omega)]
/-- both say one limit -/
theorem limB (hs : RSt ld x) (hb : RBk bk m) (hl : RLa ld bk L x m) (hd : RDy L x m) (hw : LW ld bk L x m) {p : Nat} (hp : p < L.np) : ∃ k σ' τ', k ≤ 9999 ∧ ScX x σ' ∧ ScM m τ' ∧ f_X2_limitOf (nI p) x = some (nI k, σ') ∧ f_X11_limitOf (nI p) m = some (nI k, τ') := by
  have h8 := hl.1.1
  have hbk := hb.1
  obtain ⟨cN, c4, cx, cm⟩ := coat_cN hl hd (p := p) (by omega)
  obtain ⟨-, -, ⟨li, hli, li1, li2⟩, -⟩ := hl.2.2.2.2.2.1 p hp
  obtain ⟨pr, hpr, epr⟩ := prt_N hl (ageS x ld p)
  have hbase : li * pr / 100 ≤ 1998 := by
    have : li * pr ≤ 999 * 200 := Nat.mul_le_mul hli hpr
    omega
  -- here
  let σ1 := sI x 17 0 (nI p)
  let σ2 := sI σ1 17 1 (ageS x ld p)
  let σ3 := sI σ2 17 2 (nI li)
  let σ4 := sI σ3 17 3 (sumT (honT x ld) (coatN x p) L.nt)
  let σ5 := sI σ4 17 4 (nI (pc 12 (coatN x p)))
  have q1 : ScX x σ1 := ScX.sI rfl
  have q2 : ScX x σ2 := q1.tr (ScX.sI rfl)
  have q3 : ScX x σ3 := q2.tr (ScX.sI rfl)
  have q4 : ScX x σ4 := q3.tr (ScX.sI rfl)
  have q5 : ScX x σ5 := q4.tr (ScX.sI rfl)
  have fx : FX x (fct x ld L p) σ5 := by
    refine ⟨q5, fun j hj => ?_⟩
    rw [fct_v]
    have : j = 0 ∨ j = 1 ∨ j = 2 ∨ j = 3 ∨ j = 4 := by omega
    rcases this with rfl | rfl | rfl | rfl | rfl
    · rfl
    · rfl
    · show nI li = gI x (ld + 3) (3 * p + 1)
      exact li1.symm
    · rfl
    · rfl
  -- there
  let τ1 := sI m 34 1 (nI p)
  let τ2 := sI τ1 34 2 (ageS x ld p)
  let τ3 := sI τ2 34 3 (nI li)
  let τ4 := sI τ3 34 4 (sumT (honT x ld) (coatN x p) L.nt)
  let τ5 := sI τ4 34 5 (nI (pc 12 (coatN x p)))
  have r1 : ScM m τ1 := ScM.sI rfl
  have r2 : ScM m τ2 := r1.tr (ScM.sI rfl)
  have r3 : ScM m τ3 := r2.tr (ScM.sI rfl)
  have r4 : ScM m τ4 := r3.tr (ScM.sI rfl)
  have r5 : ScM m τ5 := r4.tr (ScM.sI rfl)
  have fm : FM m (fct x ld L p) τ5 := by
    refine ⟨r5, fun j hj => ?_⟩
    rw [fct_v]
    have : j = 0 ∨ j = 1 ∨ j = 2 ∨ j = 3 ∨ j = 4 := by omega
    rcases this with rfl | rfl | rfl | rfl | rfl
    · rfl
    · rfl
    · show nI li = gI x (ld + 3) (3 * p + 1)
      exact li1.symm
    · rfl
    · rfl
  obtain ⟨z, σ', τ', z1, z2, z3, z4, z5⟩ := laws (fun j _ => fct_s hl hd hp j) hs hb hl hd hw (y := li * pr / 100) (by omega) L.nl 0 FU FU σ5 τ5 (by omega) (by have := hl.2.2.2.1.1; rw [FU_eq]; omega) (by have := hl.2.2.2.1.1; rw [FU_eq]; omega) fx fm
  unfold Sm at z1
  have hk : ∃ k, k ≤ 9999 ∧ lim ((li * pr / 100 : Nat) + z) = nI k := by
    unfold lim
    split
    · exact ⟨0, by omega, rfl⟩
    · split
      · exact ⟨9999, by omega, rfl⟩
      · rename_i a b
        refine ⟨(((li * pr / 100 : Nat) : Int) + z).toNat, by omega, ?_⟩
        rw [vI_n]
        congr 1
        omega
  obtain ⟨k, k1, k2⟩ := hk
  refine ⟨k, σ', τ', k1, z2.1, z3.1, ?_, ?_⟩
  · have G1 : f_X8_get (ld + 1) (nI p) 1 x = some (nI li, x) := by have := getP hs hl hp (j := 1) (by omega); rw [li1] at this; exact this
    have t0 : f_X0_tell (-1) (nI p) x = some ((), σ1) := tell_X 0 (by omega) _ _
    have t1 : f_X0_tell (-2) (ageS x ld p) σ1 = some ((), σ2) := tell_X 1 (by omega) _ _
    have t2 : f_X0_tell (-3) (nI li) σ2 = some ((), σ3) := tell_X 2 (by omega) _ _
    have t3 : f_X0_tell (-4) (sumT (honT x ld) (coatN x p) L.nt) σ3 = some ((), σ4) := tell_X 3 (by omega) _ _
    have t4 : f_X0_tell (-5) (nI (pc 12 (coatN x p))) σ4 = some ((), σ5) := tell_X 4 (by omega) _ _
    obtain ⟨s3, b3, l3, d3⟩ := scrP q3 (ScM.rf m) hs hb hl hd
    obtain ⟨s4, b4, l4, d4⟩ := scrP q4 (ScM.rf m) hs hb hl hd
    obtain ⟨s5, b5, l5, d5⟩ := scrP q5 (ScM.rf m) hs hb hl hd
    obtain ⟨s6, b6, l6, d6⟩ := scrP z2.1 (ScM.rf m) hs hb hl hd
    rw [e_X2_limitOf]
    dsimp only [ltt]
    rw [hs.1, if_pos (landB_of hs.2.1), G1]
    dsimp only [Option.bind]
    rw [age_X hs hl hp]
    dsimp only
    rw [t0]
    dsimp only
    rw [t1]
    dsimp only
    rw [t2]
    dsimp only
    rw [hon_X s3 l3 d3 (by omega), hon_c hs q3]
    dsimp only
    rw [t3]
    dsimp only
    rw [titlesOf_X l4 d4 (by omega), coat_c' q4]
    dsimp only
    rw [bits_X c4]
    dsimp only
    rw [t4]
    dsimp only
    rw [s5.1, if_pos (landB_of hs.2.1), prt_X s5 l5, prt_c hs q5, epr]
    dsimp only
    rw [s5.1, if_pos (landB_of hs.2.1), e_X0_firstLaw]
    have z4' : f_X0_firstLaw_2 ld FU 0 σ5 = some (vI z, σ') := z4
    rw [z4']
    dsimp only
    rw [pk_mul, show (100 : Int32) = nI 100 from rfl, pk_div (by have : li * pr ≤ 999 * 200 := Nat.mul_le_mul hli hpr; omega) (by omega) (by omega)]
    have ad : nI (li * pr / 100) + vI z = vI ((li * pr / 100 : Nat) + z) := by rw [vI_n]; show Int32.ofInt _ + Int32.ofInt _ = Int32.ofInt _; rw [Int32.ofInt_add]
    rw [ad]
    have := lim_X (w := (li * pr / 100 : Nat) + z) (by omega) (by omega) σ'
    rw [k2] at this
    exact this
  · rw [e_X11_limitOf, hb.2, show (8 : Int32) = nI 8 from rfl, show (6 : Int32) = nI 6 from rfl, pk_mul, pk_mul, nI_add]
    dsimp only [ltt]
    have h6 := hl.2.2.1.1
    have lp : f_X11_limitOf_22 FU (nI p) (nI (8 * bk + p)) 100 (nI (6 * bk)) m = (fun a => ltt (((nI li * a) / (100 : Int32)).toInt64) fun w9 => ltt ((8 : Int32) * (nI bk)) fun w10 => f_X11_limitOf_162 FU w9 w10 τ5) (itr (fun a i => if ageS x ld p < gI x (ld + 9) (2 * i) then a else gI x (ld + 9) (2 * i + 1)) L.na 100 0) := by
      refine loop_fu (fun n a i => f_X11_limitOf_22 n (nI p) (nI (8 * bk + p)) a (nI (6 * bk + i)) m) _ (fun a => ltt (((nI li * a) / (100 : Int32)).toInt64) fun w9 => ltt ((8 : Int32) * (nI bk)) fun w10 => f_X11_limitOf_162 FU w9 w10 τ5) L.na (by omega) ?_ ?_ 100
      · intro n a
        rw [e_X11_limitOf_22, hb.2, (bk_ix hb.1).1, if_pos rfl, (bk_ix hb.1).2, hl.2.2.1.2.2, show (6 : Int32) = nI 6 from rfl, pk_mul, nI_add, if_pos (nI_le (by omega) (by omega)), if_pos (by decide)]
        dsimp only [ltt]
        obtain ⟨s1', b1', l1', d1'⟩ := scrP (ScX.rf x) r1 hs hb hl hd
        obtain ⟨s4', b4', l4', d4'⟩ := scrP (ScX.rf x) r3 hs hb hl hd
        have a1 : f_X11_ageOf (nI p) (sI m 34 (ix 1) (nI p)) = some (ageS x ld p, τ1) := age_M b1' l1' d1' hp
        rw [a1]
        dsimp only [Option.bind]
        rw [if_pos (by decide), if_pos (inb_nI (by omega) (by omega)), if_pos (by decide), ix_nI (by omega)]
        have g6 : gI (sI τ1 34 (ix 2) (ageS x ld p)) 6 (8 * bk + p) = nI li := by rw [show sI τ1 34 (ix 2) (ageS x ld p) = τ2 from rfl, r2.1 6 _ rfl]; exact li2
        rw [g6, if_pos (inb_nI (by omega) (by omega)), ix_nI (by omega)]
        have e3 : sI (sI τ1 34 (ix 2) (ageS x ld p)) 34 (ix 3) (nI li) = τ3 := rfl
        rw [e3, show gI τ3 35 p = nI (coatN x p) by rw [r3.1 35 _ rfl]; exact cm, sum_M b4' l4' (by omega), if_neg (by decide)]
        dsimp only
        rw [if_pos (by decide), if_pos (inb_nI (by omega) (by omega))]
        have e4 : sI τ3 34 (ix 4) (sumT (honT x ld) (coatN x p) L.nt) = τ4 := rfl
        rw [e4, show gI τ4 35 p = nI (coatN x p) by rw [r4.1 35 _ rfl]; exact cm, bits_M c4]
        dsimp only
        rw [if_pos (by decide), if_pos (inb_nI (by omega) (by omega))]
        have e5 : sI τ4 34 (ix 5) (nI (pc 12 (coatN x p))) = τ5 := rfl
        rw [e5, show gI τ5 6 (8 * bk + p) = nI li by rw [r5.1 6 _ rfl]; exact li2, show gI τ5 0 12 = nI bk by rw [r5.1 0 12 rfl]; exact hb.2]
      · intro n a i hi
        obtain ⟨⟨k0, hk0, k01, k02⟩, ⟨k1, hk1, k11, k12⟩⟩ := hl.2.2.2.2.2.2.2.1 i hi
        rw [e_X11_limitOf_22, hb.2, (bk_ix hb.1).1, if_pos rfl, (bk_ix hb.1).2, hl.2.2.1.2.2, show (6 : Int32) = nI 6 from rfl, pk_mul, nI_add, if_neg (nI_ge (by omega) (by omega)), inb_nI (show 6 * bk + i < 12 by omega) (by omega), if_pos rfl, age_M hb hl hd hp, ix_nI (by omega), nI_1]
        dsimp only [Option.bind, ltt]
        rw [k01, k02, k11, k12]
        by_cases c : ageS x ld p < nI k0
        · rw [if_pos c, if_pos c]; rfl
        · rw [if_neg c, if_neg c, if_pos rfl]; rfl
    rw [lp]
    show f_X11_limitOf_162 FU ((nI li * prtS x ld L (ageS x ld p) / 100).toInt64) (8 * nI bk) τ5 = some (nI k, τ')
    rw [epr, pk_mul, show (100 : Int32) = nI 100 from rfl, pk_div (by have : li * pr ≤ 999 * 200 := Nat.mul_le_mul hli hpr; omega) (by omega) (by omega), show (8 : Int32) = nI 8 from rfl, pk_mul, nI_l (by omega), ← k2]
    exact z5
end LimitB
