/-! ===== a limit does not hang on loose letters ===== -/
section Lim2
variable {ld bk : Nat} {L : LD} {x m x1 m1 : St}
theorem laws2 {F : Nat → Int} (hF : ∀ j, j < 5 → Sm (F j)) (h : K ld bk L x m) (h1 : K ld bk L x1 m1) (c12 : ∀ k, gI x1 (ld + 12) k = gI x (ld + 12) k) (c19 : ∀ k, gI x1 (ld + 19) k = gI x (ld + 19) k) : ∀ d i n n' σ σ1, i + d = L.nl → d < n → d < n' → FX x F σ → FX x1 F σ1 → ∃ z σ' σ1', Sm z ∧ FX x F σ' ∧ FX x1 F σ1' ∧ f_X0_firstLaw_2 ld n (nI i) σ = some (vI z, σ') ∧ f_X0_firstLaw_2 ld n' (nI i) σ1 = some (vI z, σ1') := by
  obtain ⟨-, hs, hb, hl, hw, hd⟩ := id h
  obtain ⟨-, hs1, hb1, hl1, hw1, hd1⟩ := id h1
  have h8 := hl.2.2.2.1.1
  have xl : ∀ (y σ : St), RSt ld y → ScX y σ → ∀ k, gI σ (ld + 12) k = gI y (ld + 12) k := by
    intro y σ hy hσ k
    refine hσ.1 _ _ ?_
    rcases hy.2.1 with e | e <;> subst e <;> rfl
  intro d
  induction d with
  | zero =>
    intro i n n' σ σ1 hi hn hn' hσ hσ1
    obtain ⟨n, rfl⟩ : ∃ k, n = k + 1 := ⟨n - 1, by omega⟩
    obtain ⟨n', rfl⟩ : ∃ k, n' = k + 1 := ⟨n' - 1, by omega⟩
    obtain ⟨-, -, l', -⟩ := scrP hσ.1 (ScM.rf m) hs hb hl hd
    obtain ⟨-, -, l1', -⟩ := scrP hσ1.1 (ScM.rf m1) hs1 hb1 hl1 hd1
    refine ⟨0, σ, σ1, by unfold Sm; omega, hσ, hσ1, ?_, ?_⟩
    · rw [e_X0_firstLaw_2, l'.2.2.2.1.2.1, if_pos (nI_le (by omega) (by omega))]; rfl
    · rw [e_X0_firstLaw_2, l1'.2.2.2.1.2.1, if_pos (nI_le (by omega) (by omega))]; rfl
  | succ d ih =>
    intro i n n' σ σ1 hi hn hn' hσ hσ1
    obtain ⟨n, rfl⟩ : ∃ k, n = k + 1 := ⟨n - 1, by omega⟩
    obtain ⟨n', rfl⟩ : ∃ k, n' = k + 1 := ⟨n' - 1, by omega⟩
    obtain ⟨s, t, a, b, w1, w2, w3, w4, w5, w6, w7, -⟩ := hw i (by omega)
    have w7' : CodeX x1 (ld + 19) a (cX s ++ cX t) := fun k hk => by rw [c19]; exact w7 k hk
    -- one row, on one side
    have side : ∀ (y my σ : St) (n : Nat), K ld bk L y my → (∀ k, gI y (ld + 12) k = gI x (ld + 12) k) → FX y F σ → f_X0_firstLaw_2 ld (n + 1) (nI i) σ = ((f_X0_run (ld + 19) (nI (a + (cX s).length)) (nI (a + (cX s).length + (cX t).length)) σ).bind fun q3 => if q3.1 = 0 then ((f_X0_firstLaw_2 ld n) (nI (i + 1)) q3.2) else ((f_X8_get (ld + 10) (nI i) (0 : Int32) q3.2).bind fun q4 => (f_X0_run (ld + 19) q4.1 (nI (a + (cX s).length)) q4.2).bind fun q5 => some (q5.1, q5.2))) ∧ ∀ τ, FX y F τ → f_X8_get (ld + 10) (nI i) 0 τ = some (nI a, τ) := by
      intro y my σ n hy cy hσ
      obtain ⟨-, ys, yb, yl, yw, yd⟩ := id hy
      have G : ∀ (τ : St), ScX y τ → ∀ j, j < 3 → f_X8_get (ld + 10) (nI i) (nI j) τ = some (gI x (ld + 12) (3 * i + j), τ) := by
        intro τ hτ j hj
        obtain ⟨s1, b1, l1, d1⟩ := scrP hτ (ScM.rf my) ys yb yl yd
        have := getR (r := ld + 10) (n := L.nl) (w := 3) (σ := τ) l1.2.2.2.1.2.1 (rl1 s1).2.2.2.1 (by rw [(lnL s1).2.2.2.2.2.1]; omega) (by rw [(lnL s1).2.2.2.2.2.1]; omega) (by omega) (by omega) (i := i) (by omega) hj
        rw [this, show ld + 10 + 2 = ld + 12 from rfl, xl y τ ys hτ, cy]
      have G1 : f_X8_get (ld + 10) (nI i) 1 σ = some (nI (a + (cX s).length), σ) := by have := G σ hσ.1 1 (by omega); rw [w4] at this; exact this
      have G2 : f_X8_get (ld + 10) (nI i) 2 σ = some (nI (a + (cX s).length + (cX t).length), σ) := by have := G σ hσ.1 2 (by omega); rw [w5] at this; exact this
      obtain ⟨-, -, l', -⟩ := scrP hσ.1 (ScM.rf my) ys yb yl yd
      refine ⟨?_, fun τ hτ => by have := G τ hτ.1 0 (by omega); rw [show 3 * i + 0 = 3 * i from rfl, w3] at this; exact this⟩
      rw [e_X0_firstLaw_2, l'.2.2.2.1.2.1, if_neg (nI_ge (by omega) (by omega)), G1]
      dsimp only [Option.bind]
      rw [G2]
      dsimp only
      rw [nI_1]
    obtain ⟨eA, gA⟩ := side x m σ n h (fun _ => rfl) hσ
    obtain ⟨eB, gB⟩ := side x1 m1 σ1 n' h1 c12 hσ1
    obtain ⟨v, σ2, hv, sv, q1, r1⟩ := law_X hF hs (l := t) (b := true) (a := a + (cX s).length) w2 w7.r (by omega) hσ
    obtain ⟨v', σ3, hv', sv', q2, r2⟩ := law_X hF hs1 (l := t) (b := true) (a := a + (cX s).length) w2 w7'.r (by omega) hσ1
    have : v' = v := by rw [hv] at hv'; cases hv'; rfl
    subst this
    rw [eA, eB, r1, r2]
    dsimp only [Option.bind]
    by_cases c : v' = 0
    · rw [if_pos (by rw [c]; rfl), if_pos (by rw [c]; rfl)]
      exact ih (i + 1) n n' σ2 σ3 (by omega) (by omega) (by omega) q1 q2
    · have c1 : v' = 1 := (sv.2 rfl).resolve_left c
      rw [if_neg (by rw [c1]; decide), if_neg (by rw [c1]; decide), gA σ2 q1, gB σ3 q2]
      dsimp only
      obtain ⟨z, σ4, hz, sz, q3, r3⟩ := law_X hF hs (l := s) (b := false) (a := a) w1 w7.l (by omega) q1
      obtain ⟨z', σ5, hz', sz', q4, r4⟩ := law_X hF hs1 (l := s) (b := false) (a := a) w1 w7'.l (by omega) q2
      have : z' = z := by rw [hz] at hz'; cases hz'; rfl
      subst this
      rw [r3, r4]
      exact ⟨z', σ4, σ5, sz.1, q3, q4, rfl, rfl⟩
def s5 (x : St) (ld : Nat) (L : LD) (p : Nat) : St := sI (sI (sI (sI (sI x 17 0 (nI p)) 17 1 (ageS x ld p)) 17 2 (gI x (ld + 3) (3 * p + 1))) 17 3 (sumT (honT x ld) (coatN x p) L.nt)) 17 4 (nI (pc 12 (coatN x p)))
theorem s5_sc (p : Nat) : ScX x (s5 x ld L p) := ((((ScX.sI rfl).tr (ScX.sI rfl)).tr (ScX.sI rfl)).tr (ScX.sI rfl)).tr (ScX.sI rfl)
theorem s5_fx (p : Nat) : FX x (fct x ld L p) (s5 x ld L p) := by
  refine ⟨s5_sc p, fun j hj => ?_⟩
  rw [fct_v]
  have : j = 0 ∨ j = 1 ∨ j = 2 ∨ j = 3 ∨ j = 4 := by omega
  rcases this with rfl | rfl | rfl | rfl | rfl <;> rfl
theorem limX (h : K ld bk L x m) {p : Nat} (hp : p < L.np) {z : Int} (z1 : Sm z) {σ' : St} (hf : f_X0_firstLaw_2 ld FU 0 (s5 x ld L p) = some (vI z, σ')) : f_X2_limitOf (nI p) x = some (lim ((((gI x (ld + 3) (3 * p + 1)).toNatClampNeg * (prtS x ld L (ageS x ld p)).toNatClampNeg / 100 : Nat) : Int) + z), σ') := by
  obtain ⟨-, hs, hb, hl, hw, hd⟩ := id h
  have h8 := hl.1.1
  obtain ⟨cN, c4, cx, cm⟩ := coat_cN hl hd (p := p) (by omega)
  obtain ⟨-, -, ⟨li, hli, li1, li2⟩, -⟩ := hl.2.2.2.2.2.1 p hp
  obtain ⟨pr, hpr, epr⟩ := prt_N hl (ageS x ld p)
  have hmul : li * pr ≤ 999 * 200 := Nat.mul_le_mul hli hpr
  rw [epr, li1, nI_clamp (by omega), nI_clamp (by omega)]
  unfold Sm at z1
  let σ1 := sI x 17 0 (nI p)
  let σ2 := sI σ1 17 1 (ageS x ld p)
  let σ3 := sI σ2 17 2 (gI x (ld + 3) (3 * p + 1))
  let σ4 := sI σ3 17 3 (sumT (honT x ld) (coatN x p) L.nt)
  have q1 : ScX x σ1 := ScX.sI rfl
  have q2 : ScX x σ2 := q1.tr (ScX.sI rfl)
  have q3 : ScX x σ3 := q2.tr (ScX.sI rfl)
  have q4 : ScX x σ4 := q3.tr (ScX.sI rfl)
  have q5 : ScX x (s5 x ld L p) := s5_sc p
  have G1 : f_X8_get (ld + 1) (nI p) 1 x = some (gI x (ld + 3) (3 * p + 1), x) := getP hs hl hp (j := 1) (by omega)
  have t0 : f_X0_tell (-1) (nI p) x = some ((), σ1) := tell_X 0 (by omega) _ _
  have t1 : f_X0_tell (-2) (ageS x ld p) σ1 = some ((), σ2) := tell_X 1 (by omega) _ _
  have t2 : f_X0_tell (-3) (gI x (ld + 3) (3 * p + 1)) σ2 = some ((), σ3) := tell_X 2 (by omega) _ _
  have t3 : f_X0_tell (-4) (sumT (honT x ld) (coatN x p) L.nt) σ3 = some ((), σ4) := tell_X 3 (by omega) _ _
  have t4 : f_X0_tell (-5) (nI (pc 12 (coatN x p))) σ4 = some ((), s5 x ld L p) := tell_X 4 (by omega) _ _
  obtain ⟨s3, b3, l3, d3⟩ := scrP q3 (ScM.rf m) hs hb hl hd
  obtain ⟨s4, b4, l4, d4⟩ := scrP q4 (ScM.rf m) hs hb hl hd
  obtain ⟨s5', b5, l5, d5⟩ := scrP q5 (ScM.rf m) hs hb hl hd
  rw [e_X2_limitOf]
  dsimp only [ltt]
  rw [hs.1, if_pos (landB_of hs.2.1), G1]
  dsimp only [Option.bind]
  rw [age_X hs hl hp]
  dsimp only
  rw [t0]
  dsimp only
  rw [t1]
  dsimp only
  rw [t2]
  dsimp only
  rw [hon_X s3 l3 d3 (by omega), hon_c hs q3]
  dsimp only
  rw [t3]
  dsimp only
  rw [titlesOf_X l4 d4 (by omega), coat_c' q4]
  dsimp only
  rw [bits_X c4]
  dsimp only
  rw [t4]
  dsimp only
  rw [s5'.1, if_pos (landB_of hs.2.1), prt_X s5' l5, prt_c hs q5, epr]
  dsimp only
  rw [s5'.1, if_pos (landB_of hs.2.1), e_X0_firstLaw, hf]
  dsimp only
  rw [li1, pk_mul, show (100 : Int32) = nI 100 from rfl, pk_div (by omega) (by omega) (by omega)]
  have ad : nI (li * pr / 100) + vI z = vI ((li * pr / 100 : Nat) + z) := by rw [vI_n]; show Int32.ofInt _ + Int32.ofInt _ = Int32.ofInt _; rw [Int32.ofInt_add]
  rw [ad]
  exact lim_X (w := (li * pr / 100 : Nat) + z) (by omega) (by omega) σ'
/-- one limit before and after -/
theorem limE (h : K ld bk L x m) (h1 : K ld bk L x1 m1) {p : Nat} (hp : p < L.np) (cl : ∀ j k, j ≤ 19 → gI x1 (ld + j) k = gI x (ld + j) k) (c6 : gI x1 6 1 = gI x 6 1) (c7 : gI x1 7 p = gI x 7 p) : ∃ v σ' σ1', f_X2_limitOf (nI p) x = some (v, σ') ∧ f_X2_limitOf (nI p) x1 = some (v, σ1') := by
  obtain ⟨-, hs, hb, hl, hw, hd⟩ := id h
  have h8 := hl.2.2.2.1.1
  have ag : ageS x1 ld p = ageS x ld p := by unfold ageS; rw [c6, cl 3 _ (by omega)]
  have cn : coatN x1 p = coatN x p := by rw [coatN, coatN, c7]
  have ho : honT x1 ld = honT x ld := funext fun t => cl 6 _ (by omega)
  have fe : fct x1 ld L p = fct x ld L p := funext fun j => by
    unfold fct fctV
    rw [ag, cn, ho, cl 3 _ (by omega)]
  have pe : prtS x1 ld L (ageS x1 ld p) = prtS x ld L (ageS x ld p) := by
    rw [ag]
    unfold prtS
    refine itr_congr (N := L.na) (fun a k hk => ?_) _ _ _ (by omega)
    rw [cl 9 _ (by omega), cl 9 _ (by omega)]
  have fx1 := s5_fx (x := x1) (ld := ld) (L := L) p
  rw [fe] at fx1
  obtain ⟨z, σ', σ1', z1, z2, z3, z4, z5⟩ := laws2 (fun j _ => fct_s hl hd hp j) h h1 (fun k => cl 12 k (by omega)) (fun k => cl 19 k (by omega)) L.nl 0 FU FU (s5 x ld L p) (s5 x1 ld L p) (by omega) (by rw [FU_eq]; omega) (by rw [FU_eq]; omega) (s5_fx p) fx1
  refine ⟨_, σ', σ1', limX h hp z1 z4, ?_⟩
  have := limX h1 hp z1 z5
  rw [pe, cl 3 _ (by omega)] at this
  exact this
end Lim2
