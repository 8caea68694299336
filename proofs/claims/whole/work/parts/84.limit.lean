/-! ===== what a person may bear ===== -/
def pc : Nat → Nat → Nat
  | 0, _ => 0
  | n + 1, c => c % 2 + pc n (c / 2)
theorem pc_le (n c : Nat) : pc n c ≤ n := by
  induction n generalizing c with
  | zero => exact Nat.le_refl _
  | succ n ih => have := ih (c / 2); rw [pc]; omega
def bcf (x0 : Int32) : Int32 :=
  ltt (x0 - ((jush x0 (1 : Int32)) &&& (1431655765 : Int32))) fun w6 => ltt ((w6 &&& (858993459 : Int32)) + ((jush w6 (2 : Int32)) &&& (858993459 : Int32))) fun w7 => ltt ((w7 + (jush w7 (4 : Int32))) &&& (252645135 : Int32)) fun w8 => ltt (w8 + (jush w8 (8 : Int32))) fun w9 => ltt (w9 + (jush w9 (16 : Int32))) fun w10 => w10 &&& (63 : Int32)
theorem bcf_all : (List.range 4096).all (fun c => decide (bcf (nI c) = nI (pc 12 c))) = true := by decide +kernel
theorem bits_X {c : Nat} (h : c < 4096) (σ : St) : f_J6_bitCount_0f7a4 (nI c) σ = some (nI (pc 12 c), σ) := by
  have := List.all_eq_true.mp bcf_all c (List.mem_range.mpr h)
  rw [decide_eq_true_iff] at this
  rw [e_J6_bitCount_0f7a4, ← this]
  rfl
theorem bits_M {c : Nat} (h : c < 4096) (σ : St) : f_X11_bitsOf (nI c) σ = some (nI (pc 12 c), σ) := by
  have key : ∀ d a c n, c < 2 ^ d → d < n → c < 2 ^ 31 → f_X11_bitsOf_4 n (nI a) (nI c) σ = some (nI (a + pc d c), σ) := by
    intro d
    induction d with
    | zero =>
      intro a c n hc hn _
      obtain ⟨n, rfl⟩ : ∃ k, n = k + 1 := ⟨n - 1, by omega⟩
      have : c = 0 := by rw [Nat.pow_zero] at hc; omega
      subst this
      rw [e_X11_bitsOf_4, if_pos (by decide)]
      rfl
    | succ d ih =>
      intro a c n hc hn h31
      obtain ⟨n, rfl⟩ : ∃ k, n = k + 1 := ⟨n - 1, by omega⟩
      rw [e_X11_bitsOf_4]
      by_cases c0 : c = 0
      · subst c0
        rw [if_pos (by decide)]
        have : ∀ n, pc n 0 = 0 := by
          intro n
          induction n with
          | zero => rfl
          | succ n ih => rw [pc, Nat.zero_mod, Nat.zero_div, ih]
        rw [this]
        rfl
      · rw [if_neg (nI_ne0 (by omega) h31)]
        dsimp only [ltt]
        have e1 : nI c &&& 1 = nI (c % 2) := by have := pk_andN (n := c) (by omega) (m := 1) 1 (by decide +kernel); rw [Nat.pow_one] at this; exact this
        have e2 : jush (nI c) 1 = nI (c / 2) := by have := pk_ushrN (n := c) (by omega) 1 1 (by decide +kernel); rw [Nat.pow_one] at this; exact this
        rw [e1, e2, nI_add, ih _ _ _ (by rw [Nat.pow_succ] at hc; omega) (by omega) (by omega), pc, Nat.add_assoc]
  rw [e_X11_bitsOf]
  have := key 12 0 c FU (by omega) (by rw [FU_eq]; omega) (by omega)
  rw [Nat.zero_add] at this
  exact this
section Limit
variable {ld bk : Nat} {L : LD} {x m : St}
/-- the facts that a law may ask for -/
def fctV (x : St) (ld : Nat) (L : LD) (p j : Nat) : Int32 := if j = 0 then nI p else if j = 1 then ageS x ld p else if j = 2 then gI x (ld + 3) (3 * p + 1) else if j = 3 then sumT (honT x ld) (coatN x p) L.nt else nI (pc 12 (coatN x p))
def fct (x : St) (ld : Nat) (L : LD) (p j : Nat) : Int := (fctV x ld L p j).toInt
theorem fct_v (p j : Nat) : vI (fct x ld L p j) = fctV x ld L p j := Int32.ofInt_toInt _
theorem age_N (hl : RLa ld bk L x m) (hd : RDy L x m) {p : Nat} (hp : p < L.np) : ∃ k, k ≤ 999 ∧ ageS x ld p = nI k := by
  obtain ⟨y, hy, y1, y2⟩ := hd.1
  obtain ⟨-, ⟨k, hk, k1, k2⟩, -⟩ := hl.2.2.2.2.2.1 p hp
  rw [ageS, y1, k1]
  by_cases c : 0 < nI y - nI k
  · rw [if_pos c]
    have : k ≤ y := by
      rcases Nat.lt_or_ge y k with w | w
      · have := pk_sneg (a := y) (b := k) (by omega) w
        exact absurd (Int32.lt_trans c this) (by decide)
      · exact w
    exact ⟨y - k, by omega, pk_sub this⟩
  · rw [if_neg c]; exact ⟨0, by omega, rfl⟩
theorem hon_b (hl : RLa ld bk L x m) (c : Nat) : ∃ k, k ≤ 11988 ∧ sumT (honT x ld) c L.nt = nI k := by
  have h12 := hl.2.1.1
  obtain ⟨k, hk, e⟩ := sumT_b (f := honT x ld) (c := c) (N := L.nt) (b := 999) (fun t ht => by
    obtain ⟨-, ⟨k, hk, k1, -⟩, -⟩ := hl.2.2.2.2.2.2.1 t ht
    exact ⟨k, hk, k1⟩)
  refine ⟨k, ?_, e⟩
  have : 999 * L.nt ≤ 999 * 12 := Nat.mul_le_mul_left _ h12
  omega
theorem fct_N (hl : RLa ld bk L x m) (hd : RDy L x m) {p : Nat} (hp : p < L.np) (j : Nat) : ∃ k, k ≤ 11988 ∧ fctV x ld L p j = nI k := by
  have h8 := hl.1.1
  unfold fctV
  by_cases c0 : j = 0
  · rw [if_pos c0]; exact ⟨p, by omega, rfl⟩
  rw [if_neg c0]
  by_cases c1 : j = 1
  · rw [if_pos c1]
    obtain ⟨k, hk, e⟩ := age_N hl hd hp
    exact ⟨k, by omega, e⟩
  rw [if_neg c1]
  by_cases c2 : j = 2
  · rw [if_pos c2]
    obtain ⟨-, -, ⟨k, hk, k1, -⟩, -⟩ := hl.2.2.2.2.2.1 p hp
    exact ⟨k, by omega, k1⟩
  rw [if_neg c2]
  by_cases c3 : j = 3
  · rw [if_pos c3]; exact hon_b hl _
  rw [if_neg c3]
  exact ⟨_, by have := pc_le 12 (coatN x p); omega, rfl⟩
theorem fct_s (hl : RLa ld bk L x m) (hd : RDy L x m) {p : Nat} (hp : p < L.np) (j : Nat) : Sm (fct x ld L p j) := by
  obtain ⟨k, hk, e⟩ := fct_N hl hd hp j
  rw [fct, e, nI_toInt (by omega)]
  unfold Sm
  omega
def FX (x : St) (F : Nat → Int) (σ : St) : Prop := ScX x σ ∧ ∀ j, j < 5 → gI σ 17 j = vI (F j)
def FM (m : St) (F : Nat → Int) (σ : St) : Prop := ScM m σ ∧ ∀ j, j < 5 → gI σ 34 (1 + j) = vI (F j)
theorem law_X {F : Nat → Int} (hF : ∀ j, j < 5 → Sm (F j)) (hs : RSt ld x) {l : List Tok} {b : Bool} {a : Nat} {σ : St} (hc : chk l [] = some [b]) (hcode : CodeX x (ld + 19) a (cX l)) (ha : a + (cX l).length ≤ 1600) (hσ : FX x F σ) : ∃ v σ', ev F l [] = [v] ∧ (Sm v ∧ (b = true → Tr v)) ∧ FX x F σ' ∧ f_X0_run (ld + 19) (nI a) (nI (a + (cX l).length)) σ = some (vI v, σ') := by
  have hln : lnX (ld + 19) = 1600 := by rcases hs.2.1 with h | h <;> subst h <;> rfl
  have ho : xS (ld + 19) = false := by rcases hs.2.1 with h | h <;> subst h <;> rfl
  rw [e_X0_run]
  dsimp only [ltt]
  have emax : f_J9_max_7cf53 0 (nI a) (sI σ 15 2 0) = some (nI a, sI σ 15 2 0) := by
    rw [e_J9_max_7cf53]
    by_cases c : 0 < a
    · rw [if_pos (show (0 : Int32) < nI a from nI_lt (a := 0) c (by omega))]
    · have : a = 0 := by omega
      subst this
      rw [if_neg (by decide)]
      rfl
  rw [emax]
  dsimp only [Option.bind]
  have s0 : SX x F [] (sI σ 15 2 0) := ⟨hσ.1.tr (ScX.sI rfl), by simp, by rw [gI_sI, if_pos ⟨rfl, rfl⟩]; rfl, fun j hj => by rw [gI_sI, if_neg (by omega)]; exact hσ.2 j hj, trivial⟩
  obtain ⟨σ1, g1, g2, g3⟩ := runX hF hln ho l [] [] [b] (sI σ 15 2 0) a (a + (cX l).length) hc trivial hcode (Nat.le_refl _) ha s0
  rcases he : ev F l [] with _ | ⟨v, r⟩
  · rw [he] at g2; exact g2.elim
  rcases r with _ | ⟨v2, r⟩
  · rw [he] at g1 g2
    obtain ⟨σ2, p1, p2⟩ := pop_X g1
    refine ⟨v, σ2, rfl, g2.1, ⟨p2.1, p2.2.2.2.1⟩, ?_⟩
    have ef : FU = (FU - (cX l).length) + (cX l).length := by rw [FU_eq]; omega
    rw [ef, g3]
    obtain ⟨n, hn⟩ : ∃ k, FU - (cX l).length = k + 1 := ⟨FU - (cX l).length - 1, by rw [FU_eq]; omega⟩
    rw [hn, e_X0_run_12, if_pos (nI_le (Nat.le_refl _) (by omega)), p1]
    rfl
  · rw [he] at g2; exact g2.2.elim
theorem law_M {F : Nat → Int} (hF : ∀ j, j < 5 → Sm (F j)) (hb : RBk bk m) {l : List Tok} {b : Bool} {a : Nat} {σ : St} (hc : chk l [] = some [b]) (hcode : CodeM m (1600 * bk + a) (cM l)) (ha : a + (cM l).length ≤ 1600) (hσ : FM m F σ) {v : Int} (hv : ev F l [] = [v]) : ∃ σ', FM m F σ' ∧ f_X11_works (nI a) (nI (a + (cM l).length)) σ = some (vL v, σ') := by
  have hbk := hb.1
  have hbσ : gI σ 0 12 = nI bk := by rw [hσ.1.1 0 12 rfl]; exact hb.2
  rw [e_X11_works, hbσ, show (1600 : Int32) = nI 1600 from rfl, pk_mul, nI_add]
  dsimp only [ltt]
  obtain ⟨σ1, g1, g3⟩ := runM hb hF l [] [] [b] σ (1600 * bk + a) (a + (cM l).length) hc trivial (by simp) hcode (by omega) ha ⟨hσ.1, hσ.2, trivial⟩
  rw [hv] at g1 g3
  have hbσ1 : gI σ1 0 12 = nI bk := by rw [g1.1.1 0 12 rfl]; exact hb.2
  refine ⟨σ1, ⟨g1.1, g1.2.1⟩, ?_⟩
  have ef : FU = (FU - (cM l).length) + (cM l).length := by rw [FU_eq]; omega
  have g4 := g3 (FU - (cM l).length)
  rw [← ef, List.length_nil] at g4
  refine Eq.trans g4 ?_
  obtain ⟨n, hn⟩ : ∃ k, FU - (cM l).length = k + 1 := ⟨FU - (cM l).length - 1, by rw [FU_eq]; omega⟩
  rw [hn, e_X11_works_14, hbσ1, show (1600 : Int32) = nI 1600 from rfl, pk_mul, nI_add, if_pos (nI_le (by omega) (by omega)), if_pos (by decide)]
  have : gL σ1 33 0 = vL v := g1.2.2.1
  rw [show ix (0 : Int32) = 0 from rfl, this]
def lim (w : Int) : Int32 := if w < 0 then 0 else if 9999 < w then 9999 else vI w
theorem lim_M {w : Int} (h1 : -2000000 ≤ w) (h2 : w ≤ 2000000) (σ : St) : (if 0 ≤ (lg_cmp (vL w) (0 : Int64)) then (if (lg_cmp (vL w) (9999 : Int64)) ≤ 0 then (some ((vL w).toInt32, σ)) else (some ((9999 : Int32), σ))) else (some ((0 : Int32), σ))) = some (lim w, σ) := by
  have t : (vL w).toInt = w := vL_t (by omega) (by omega)
  have z0 : (0 : Int64).toInt = 0 := rfl
  have z9 : (9999 : Int64).toInt = 9999 := rfl
  unfold lim
  by_cases c : w < 0
  · rw [if_neg (fun q => by rw [cmp_ge, t, z0] at q; omega), if_pos c]
  · rw [if_pos (by rw [cmp_ge, t, z0]; omega), if_neg c]
    by_cases c2 : 9999 < w
    · rw [if_neg (fun q => by rw [cmp_le, t, z9] at q; omega), if_pos c2]
    · rw [if_pos (by rw [cmp_le, t, z9]; omega), if_neg c2, vI_L]
theorem lim_X {w : Int} (h1 : -2000000 ≤ w) (h2 : w ≤ 2000000) (σ : St) : ((f_J9_min_7cf53 (9999 : Int32) (vI w) σ).bind fun q35 => (f_J9_max_7cf53 (0 : Int32) q35.1 q35.2).bind fun q36 => some (q36.1, q36.2)) = some (lim w, σ) := by
  have t : (vI w).toInt = w := vI_t (by omega) (by omega)
  have z0 : (0 : Int32).toInt = 0 := rfl
  have z9 : (9999 : Int32).toInt = 9999 := rfl
  rw [e_J9_min_7cf53]
  unfold lim
  by_cases c2 : 9999 < w
  · rw [if_neg (fun q => by rw [Int32.lt_iff_toInt_lt, t, z9] at q; omega), if_neg (by omega), if_pos c2]
    rfl
  · by_cases c3 : w < 9999
    · rw [if_pos (by rw [Int32.lt_iff_toInt_lt, t, z9]; exact c3)]
      dsimp only [Option.bind]
      rw [e_J9_max_7cf53]
      by_cases c : w < 0
      · rw [if_neg (fun q => by rw [Int32.lt_iff_toInt_lt, t, z0] at q; omega), if_pos c]
      · rw [if_neg c, if_neg c2]
        by_cases c4 : 0 < w
        · rw [if_pos (by rw [Int32.lt_iff_toInt_lt, t, z0]; exact c4)]
        · have : w = 0 := by omega
          subst this
          rfl
    · have : w = 9999 := by omega
      subst this
      rfl
theorem laws {F : Nat → Int} (hF : ∀ j, j < 5 → Sm (F j)) (hs : RSt ld x) (hb : RBk bk m) (hl : RLa ld bk L x m) (hd : RDy L x m) (hw : LW ld bk L x m) {y : Nat} (hy : y ≤ 100000) : ∀ d i n n' σ τ, i + d = L.nl → d < n → d < n' → FX x F σ → FM m F τ → ∃ z σ' τ', Sm z ∧ FX x F σ' ∧ FM m F τ' ∧ f_X0_firstLaw_2 ld n (nI i) σ = some (vI z, σ') ∧ f_X11_limitOf_162 n' (vL y) (nI (8 * bk + i)) τ = some (lim (y + z), τ') := by
  have h8 := hl.2.2.2.1.1
  have hbk := hb.1
  intro d
  induction d with
  | zero =>
    intro i n n' σ τ hi hn hn' hσ hτ
    obtain ⟨n, rfl⟩ : ∃ k, n = k + 1 := ⟨n - 1, by omega⟩
    obtain ⟨n', rfl⟩ : ∃ k, n' = k + 1 := ⟨n' - 1, by omega⟩
    obtain ⟨s1, b1, l1, d1⟩ := scrP hσ.1 hτ.1 hs hb hl hd
    refine ⟨0, σ, τ, by unfold Sm; omega, hσ, hτ, ?_, ?_⟩
    · rw [e_X0_firstLaw_2, l1.2.2.2.1.2.1, if_pos (nI_le (by omega) (by omega))]; rfl
    · rw [e_X11_limitOf_162, b1.2, (bk_ix b1.1).1, if_pos rfl, (bk_ix b1.1).2, l1.2.2.2.1.2.2, show (8 : Int32) = nI 8 from rfl, pk_mul, nI_add, if_pos (nI_le (by omega) (by omega)), lim_M (by omega) (by omega), Int.add_zero]
  | succ d ih =>
    intro i n n' σ τ hi hn hn' hσ hτ
    obtain ⟨n, rfl⟩ : ∃ k, n = k + 1 := ⟨n - 1, by omega⟩
    obtain ⟨n', rfl⟩ : ∃ k, n' = k + 1 := ⟨n' - 1, by omega⟩
    obtain ⟨s1, b1, l1, d1⟩ := scrP hσ.1 hτ.1 hs hb hl hd
    obtain ⟨s, t, a, b, h1, h2, h3, h4, h5, h6, h7, h9, h10, h11, h12, h13⟩ := hw i (by omega)
    have xl : ∀ (σ : St), ScX x σ → ∀ k, gI σ (ld + 12) k = gI x (ld + 12) k := by
      intro σ hσ k
      refine hσ.1 _ _ ?_
      rcases hs.2.1 with h | h <;> subst h <;> rfl
    have G : ∀ (σ : St), ScX x σ → ∀ j, j < 3 → f_X8_get (ld + 10) (nI i) (nI j) σ = some (gI x (ld + 12) (3 * i + j), σ) := by
      intro σ hσ j hj
      obtain ⟨s1, b1, l1, d1⟩ := scrP hσ (ScM.rf m) hs hb hl hd
      have := getR (r := ld + 10) (n := L.nl) (w := 3) (σ := σ) l1.2.2.2.1.2.1 (rl1 s1).2.2.2.1 (by rw [(lnL s1).2.2.2.2.2.1]; omega) (by rw [(lnL s1).2.2.2.2.2.1]; omega) (by omega) (by omega) (i := i) (by omega) hj
      rw [this, show ld + 10 + 2 = ld + 12 from rfl, xl σ hσ]
    have G0 : ∀ (σ : St), ScX x σ → f_X8_get (ld + 10) (nI i) 0 σ = some (nI a, σ) := fun σ hσ => by have := G σ hσ 0 (by omega); rw [show 3 * i + 0 = 3 * i from rfl, h3] at this; exact this
    have G1 : f_X8_get (ld + 10) (nI i) 1 σ = some (nI (a + (cX s).length), σ) := by have := G σ hσ.1 1 (by omega); rw [h4] at this; exact this
    have G2 : f_X8_get (ld + 10) (nI i) 2 σ = some (nI (a + (cX s).length + (cX t).length), σ) := by have := G σ hσ.1 2 (by omega); rw [h5] at this; exact this
    obtain ⟨v, σ1, hv, sv, q1, r1⟩ := law_X hF hs (l := t) (b := true) (a := a + (cX s).length) h2 h7.r (by omega) hσ
    obtain ⟨τ1, q2, r2⟩ := law_M hF hb (l := t) (b := true) (a := b + (cM s).length) h2 (by have := h13.r; rw [Nat.add_assoc] at this; exact this) (by omega) hτ hv
    have trv := sv.2 rfl
    have ml : ∀ (τ : St), ScM m τ → ∀ o k, o = 17 ∨ o = 18 ∨ o = 19 → gI τ o k = gI m o k := by
      intro τ hτ o k ho
      rcases ho with rfl | rfl | rfl <;> exact hτ.1 _ _ rfl
    have Xs : f_X0_firstLaw_2 ld (n + 1) (nI i) σ = (if vI v = 0 then f_X0_firstLaw_2 ld n (nI (i + 1)) σ1 else ((f_X8_get (ld + 10) (nI i) (0 : Int32) σ1).bind fun q4 => (f_X0_run (ld + 19) q4.1 (nI (a + (cX s).length)) q4.2).bind fun q5 => some (q5.1, q5.2))) := by
      rw [e_X0_firstLaw_2, l1.2.2.2.1.2.1, if_neg (nI_ge (by omega) (by omega)), G1]
      dsimp only [Option.bind]
      rw [G2]
      dsimp only
      rw [r1, nI_1]
    have Ms : f_X11_limitOf_162 (n' + 1) (vL y) (nI (8 * bk + i)) τ = (if (lg_cmp (vL v) (1 : Int64)) = 0 then ((f_X11_works (nI b) (nI (b + (cM s).length)) τ1).bind fun q2 => ltt (vL y + q2.1) fun w3 => if 0 ≤ (lg_cmp w3 (0 : Int64)) then (if (lg_cmp w3 (9999 : Int64)) ≤ 0 then (some ((w3).toInt32, q2.2)) else (some ((9999 : Int32), q2.2))) else (some ((0 : Int32), q2.2))) else f_X11_limitOf_162 n' (vL y) (nI (8 * bk + i + 1)) τ1) := by
      rw [e_X11_limitOf_162, b1.2, (bk_ix b1.1).1, if_pos rfl, (bk_ix b1.1).2, l1.2.2.2.1.2.2, show (8 : Int32) = nI 8 from rfl, pk_mul, nI_add, if_neg (nI_ge (by omega) (by omega)), inb_nI (show 8 * bk + i < 16 by omega) (by omega), ix_nI (by omega), ml τ hτ.1 18 _ (by omega), ml τ hτ.1 19 _ (by omega), h10, h11]
      simp only [if_true]
      rw [r2]
      dsimp only [Option.bind]
      rw [ml τ1 q2.1 17 _ (by omega), ml τ1 q2.1 18 _ (by omega), h9, h10, nI_1]
    by_cases c : v = 0
    · subst c
      obtain ⟨z, σ2, τ2, z1, z2, z3, z4, z5⟩ := ih (i + 1) n n' σ1 τ1 (by omega) (by omega) (by omega) q1 q2
      refine ⟨z, σ2, τ2, z1, z2, z3, ?_, ?_⟩
      · rw [Xs, if_pos (by decide), z4]
      · rw [Ms, if_neg (by decide +kernel), Nat.add_assoc, z5]
    · have c1 : v = 1 := trv.resolve_left c
      subst c1
      obtain ⟨z, σ2, hz, sz, q3, r3⟩ := law_X hF hs (l := s) (b := false) (a := a) h1 h7.l (by omega) q1
      obtain ⟨τ2, q4, r4⟩ := law_M hF hb (l := s) (b := false) (a := b) h1 h13.l (by omega) q2 hz
      refine ⟨z, σ2, τ2, sz.1, q3, q4, ?_, ?_⟩
      · rw [Xs, if_neg (by decide), G0 σ1 q1.1]
        dsimp only [Option.bind]
        rw [r3]
      · rw [Ms, if_pos (by decide +kernel), r4]
        dsimp only [Option.bind, ltt]
        have : vL y + vL z = vL (y + z) := by show Int64.ofInt _ + Int64.ofInt _ = Int64.ofInt _; rw [Int64.ofInt_add]
        have sz1 := sz.1
        unfold Sm at sz1
        rw [this, lim_M (by omega) (by omega)]
end Limit
