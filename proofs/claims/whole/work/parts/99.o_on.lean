/-! ===== does the row of numbers fit, here ===== -/
section FitsX
variable {ld bk : Nat} {L : LD} {x m : St} {n0 : Nat}
def SL (x : St) (k : Nat) : Int32 := itr (fun c i => jrem (3 * c + gI x 1 i) 239) k 41 0
def OkT (x : St) (ld : Nat) (L : LD) (n : Nat) : Prop := hS L + 57 ≤ n ∧ tb x (hS L + 55) ≤ 30 ∧ n = hS L + 57 + 2 * tb x (hS L + 55) ∧ SL x (n - 1) = nI (tb x (n - 1)) ∧ tw2 x 0 ≤ 999 ∧ (∀ p, p < L.np → tw2 x (2 + 54 * p) < 2 ^ L.nt) ∧ (∀ i, i < tb x (hS L + 55) → 1 ≤ bS x L i) ∧ LEAD x ld L (tb x (hS L + 55)) ≤ 9999999 ∧ LETT x L ≤ 9999
theorem light_X (h : K ld bk L x m) (h0 : RelA n0 x m) (hnb : tb x (hS L + 55) ≤ 30) : f_X3_isLightEnough 1 x = some (bi (decide (LEAD x ld L (tb x (hS L + 55)) ≤ 9999999 ∧ LETT x L ≤ 9999)), x) := by
  obtain ⟨-, hs, hb, hl, hw, hd⟩ := id h
  have h8 := hl.1.1
  have hH : hS L = 2 + 54 * L.np := rfl
  obtain ⟨s1, s2, s3, s4⟩ := sums_le h h0 hnb
  have rs : f_X3_riverStart x = some (nI (hS L + 52), x) := by
    rw [e_X3_riverStart, e_X3_heapStart]
    dsimp only [ltt]
    rw [hs.1, if_pos (landB_of hs.2.1), hl.1.2.1, show (2 : Int32) = nI 2 from rfl, show (54 : Int32) = nI 54 from rfl, pk_mul, nI_add]
    dsimp only [Option.bind]
    rw [show (52 : Int32) = nI 52 from rfl, nI_add, Nat.mul_comm L.np 54]
    rfl
  -- the heap, and the end
  have fin : ∀ f, f_X3_isLightEnough_70 1 (f + 2) ld (lN (rivT x L + btot (bS x L) (tb x (hS L + 55)) + btot (pL x ld L) L.np)) (lN (btot (pT x L) L.np)) (nI L.np) x = some (bi (decide (LEAD x ld L (tb x (hS L + 55)) ≤ 9999999 ∧ LETT x L ≤ 9999)), x) := by
    intro f
    rw [e_X3_isLightEnough_70, hl.1.2.1, if_neg (nI_nlt (Nat.le_refl _) (by omega)), show (54 : Int32) = nI 54 from rfl, pk_mul, show (2 : Int32) = nI 2 from rfl, nI_add]
    dsimp only [ltt]
    rw [if_pos rfl, if_neg (by decide), show (0 : Int32) = nI 0 from rfl, (ozS_N hs hl (c := 0) (by omega)).1, bs0]
    dsimp only [Option.bind]
    rw [lset_X hs hl (by omega), bs0]
    dsimp only
    rw [nI_l (by omega), lN_add, lN_add, Nat.add_zero, Nat.add_zero]
    have e := (l155 h h0 (f_X3_isLightEnough_70 1 (f + 1)) (a := 1) (s := 2 + L.np * 54) (by rw [if_neg (by decide)]; omega) (rivT x L + btot (bS x L) (tb x (hS L + 55)) + btot (pL x ld L) L.np) (btot (pT x L) L.np) (nI L.np)).resolve_right (by omega)
    rw [if_neg (by decide), Nat.add_zero, show 2 + L.np * 54 = hS L by omega] at e
    rw [show 2 + L.np * 54 = hS L by omega]
    refine Eq.trans e ?_
    rw [nI_1, e_X3_isLightEnough_70, hl.1.2.1, if_pos (nI_lt (by omega) (by omega))]
    show (if 0 < lg_cmp (lN (LEAD x ld L (tb x (hS L + 55)))) (lN 9999999) then some (0, x) else if 0 < lg_cmp (lN (LETT x L)) (lN 9999) then some (0, x) else some (1, x)) = _
    by_cases c1 : LEAD x ld L (tb x (hS L + 55)) ≤ 9999999
    · rw [if_neg (fun q => by rw [cmpN (by omega) (by omega)] at q; omega)]
      by_cases c2 : LETT x L ≤ 9999
      · rw [if_neg (fun q => by rw [cmpN (by omega) (by omega)] at q; omega), decide_eq_true ⟨c1, c2⟩]; rfl
      · rw [if_pos (by rw [cmpN (by omega) (by omega)]; omega), decide_eq_false (fun q => c2 q.2)]; rfl
    · rw [if_pos (by rw [cmpN (by omega) (by omega)]; omega), decide_eq_false (fun q => c1 q.1)]; rfl
  have l70 : ∀ d p f, p + d = L.np → d + 2 ≤ f → f_X3_isLightEnough_70 1 f ld (lN (rivT x L + btot (bS x L) (tb x (hS L + 55)) + btot (pL x ld L) p)) (lN (btot (pT x L) p)) (nI p) x = some (bi (decide (LEAD x ld L (tb x (hS L + 55)) ≤ 9999999 ∧ LETT x L ≤ 9999)), x) := by
    intro d
    induction d with
    | zero =>
      intro p f hp hf
      obtain ⟨f, rfl⟩ : ∃ k, f = k + 2 := ⟨f - 2, by omega⟩
      have : p = L.np := by omega
      subst this
      exact fin f
    | succ d ih =>
      intro p f hp hf
      obtain ⟨f, rfl⟩ : ∃ k, f = k + 1 := ⟨f - 1, by omega⟩
      have tl := tw2_le h0 (i := 2 + 54 * p) (by omega)
      rw [e_X3_isLightEnough_70, hl.1.2.1, if_neg (nI_nlt (by omega) (by omega)), show (54 : Int32) = nI 54 from rfl, pk_mul, show (2 : Int32) = nI 2 from rfl, nI_add, Nat.mul_comm p 54]
      dsimp only [ltt]
      rw [if_neg (fun q => by have := (nI_eq (by omega) (by omega)).mp q; omega), if_pos rfl]
      have nx : f_X3_number 1 (nI (2 + 54 * p)) (nI 2) x = some (nI (tw2 x (2 + 54 * p)), x) := num2_X h0 (fun _ => rfl) (by omega)
      obtain ⟨z1, z2⟩ := ozS_N hs hl (c := tw2 x (2 + 54 * p)) (by omega)
      have z3 := lnb hl (tw2 x (2 + 54 * p))
      rw [nx]
      dsimp only [Option.bind]
      rw [z1]
      dsimp only
      rw [lset_X hs hl (by omega)]
      dsimp only
      rw [nI_l (by omega), nI_l (by omega), lN_add, lN_add]
      have e := (l155 h h0 (f_X3_isLightEnough_70 1 f) (a := 0) (s := 2 + 54 * p) (by rw [if_pos rfl]; omega) (rivT x L + btot (bS x L) (tb x (hS L + 55)) + btot (pL x ld L) p + bsum (fun t => nw (ozN x ld) (L.tn t)) L.nt (tw2 x (2 + 54 * p))) (btot (pT x L) p + bsum (lnN L) L.nt (tw2 x (2 + 54 * p))) (nI p)).resolve_right (by omega)
      rw [if_pos rfl, show 2 + 54 * p + 2 = 4 + 54 * p by omega] at e
      refine Eq.trans e ?_
      rw [nI_1]
      have := ih (p + 1) f (by omega) (by omega)
      have g1 : rivT x L + btot (bS x L) (tb x (hS L + 55)) + btot (pL x ld L) (p + 1) = rivT x L + btot (bS x L) (tb x (hS L + 55)) + btot (pL x ld L) p + bsum (fun t => nw (ozN x ld) (L.tn t)) L.nt (tw2 x (2 + 54 * p)) + rS x (ozN x ld) (4 + 54 * p) := by
        rw [btot, show pL x ld L p = bsum (fun t => nw (ozN x ld) (L.tn t)) L.nt (tw2 x (2 + 54 * p)) + rS x (ozN x ld) (4 + 54 * p) from rfl]
        omega
      have g2 : btot (pT x L) (p + 1) = btot (pT x L) p + bsum (lnN L) L.nt (tw2 x (2 + 54 * p)) + rS x (fun _ => 1) (4 + 54 * p) := by
        rw [btot, show pT x L p = bsum (lnN L) L.nt (tw2 x (2 + 54 * p)) + rS x (fun _ => 1) (4 + 54 * p) from rfl]
        omega
      rw [g1, g2] at this
      exact this
  have l35 : ∀ d i f, i + d = tb x (hS L + 55) → d < f → f_X3_isLightEnough_35 1 f ld (nI (hS L + 52)) (lN (rivT x L + btot (bS x L) i)) 0 (nI (tb x (hS L + 55))) (nI i) x = some (bi (decide (LEAD x ld L (tb x (hS L + 55)) ≤ 9999999 ∧ LETT x L ≤ 9999)), x) := by
    intro d
    induction d with
    | zero =>
      intro i f hi hf
      obtain ⟨f, rfl⟩ : ∃ k, f = k + 1 := ⟨f - 1, by omega⟩
      have : i = tb x (hS L + 55) := by omega
      rw [e_X3_isLightEnough_35, if_pos (nI_le (by omega) (by omega)), this]
      exact l70 L.np 0 FU (by omega) (by rw [FU_eq]; omega)
    | succ d ih =>
      intro i f hi hf
      obtain ⟨f, rfl⟩ : ∃ k, f = k + 1 := ⟨f - 1, by omega⟩
      have tl := tw2_le h0 (i := hS L + 56 + 2 * i) (by omega)
      rw [e_X3_isLightEnough_35, if_neg (nI_ge (by omega) (by omega)), show (4 : Int32) = nI 4 from rfl, show (2 : Int32) = nI 2 from rfl, pk_mul, nI_add, nI_add, show hS L + 52 + 4 + 2 * i = hS L + 56 + 2 * i by omega]
      have nx : f_X3_number 1 (nI (hS L + 56 + 2 * i)) (nI 2) x = some (nI (tw2 x (hS L + 56 + 2 * i)), x) := num2_X h0 (fun _ => rfl) (by omega)
      rw [nx]
      dsimp only [Option.bind, ltt]
      rw [nI_l (by omega), lN_add, nI_1]
      have := ih (i + 1) f (by omega) (by omega)
      rw [btot, ← Nat.add_assoc] at this
      exact this
  rw [e_X3_isLightEnough]
  dsimp only [ltt]
  rw [hs.1, if_pos (landB_of hs.2.1), rs]
  dsimp only [Option.bind]
  have b1 := (tb_e h0 (i := hS L + 52) (by omega)).2.2
  have b2 := tw2_le h0 (i := hS L + 53) (by omega)
  rw [num3_X h0 (fun _ => rfl) (by omega), show hS L + 52 + 1 = hS L + 53 from rfl]
  dsimp only
  rw [nI_l (by omega), show (3 : Int32) = nI 3 from rfl, nI_add, num1_X h0 (fun _ => rfl) (by omega)]
  dsimp only
  exact l35 (tb x (hS L + 55)) 0 FU (by omega) (by rw [FU_eq]; omega)
theorem fits_X (h : K ld bk L x m) (h0 : RelA n0 x m) {n : Nat} (hn : n ≤ 1600) : ∃ b : Bool, (b = true ↔ OkT x ld L n) ∧ f_X3_fits 1 (nI n) x = some (bi b, x) := by
  obtain ⟨-, hs, hb, hl, hw, hd⟩ := id h
  have h8 := hl.1.1
  have h12 := hl.2.1.1
  have hnt : 2 ^ L.nt ≤ 2 ^ 12 := Nat.pow_le_pow_right (by omega) h12
  have hnt0 : 0 < 2 ^ L.nt := Nat.two_pow_pos _
  have hH : hS L = 2 + 54 * L.np := rfl
  have rs : f_X3_riverStart x = some (nI (hS L + 52), x) := by
    rw [e_X3_riverStart, e_X3_heapStart]
    dsimp only [ltt]
    rw [hs.1, if_pos (landB_of hs.2.1), hl.1.2.1, show (2 : Int32) = nI 2 from rfl, show (54 : Int32) = nI 54 from rfl, pk_mul, nI_add]
    dsimp only [Option.bind]
    rw [show (52 : Int32) = nI 52 from rfl, nI_add, Nat.mul_comm L.np 54]
    rfl
  have no : ∀ P : Prop, ¬ P → (OkT x ld L n → P) → ((false = true) ↔ OkT x ld L n) := fun P hP hi => ⟨fun q => (by cases q), fun q => absurd (hi q) hP⟩
  rw [e_X3_fits, rs]
  dsimp only [Option.bind]
  have tbb := (tb_e h0 (i := hS L + 55) (by omega)).2.2
  rw [show (5 : Int32) = nI 5 from rfl, nI_add, show (3 : Int32) = nI 3 from rfl, nI_add, show lnX 1 = 1600 from rfl, show Int32.ofNat 1600 = nI 1600 from rfl, show (2 : Int32) = nI 2 from rfl]
  by_cases p1 : hS L + 57 ≤ n
  · rw [if_neg (nI_nlt (by omega) (by omega)), if_pos (nI_le hn (by omega)), num1_X h0 (fun _ => rfl) (by omega)]
    dsimp only
    rw [show hS L + 52 + 3 = hS L + 55 by omega]
    by_cases p2 : tb x (hS L + 55) ≤ 30
    · rw [if_neg (show ¬ (30 : Int32) < nI (tb x (hS L + 55)) from nI_nlt (a := 30) p2 (by omega)), pk_mul, nI_add]
      by_cases p3 : n = hS L + 57 + 2 * tb x (hS L + 55)
      · rw [if_pos (show nI n = nI (hS L + 52 + 5 + 2 * tb x (hS L + 55)) by rw [show hS L + 52 + 5 + 2 * tb x (hS L + 55) = n by omega]), show nI n - 1 = nI (n - 1) from pk_sub (a := n) (b := 1) (by omega)]
        have sx : f_X3_seal 1 (nI (n - 1)) x = some (SL x (n - 1), x) := by
          rw [e_X3_seal]
          exact seal_X h0 (fun _ => rfl) (by omega) (n - 1) 0 FU 41 (by omega) (by rw [FU_eq]; omega)
        rw [sx]
        dsimp only
        rw [num1_X h0 (fun _ => rfl) (by omega)]
        dsimp only
        by_cases p4 : SL x (n - 1) = nI (tb x (n - 1))
        · rw [if_pos p4]
          have n2 : f_X3_number 1 0 (nI 2) x = some (nI (tw2 x 0), x) := num2_X h0 (fun _ => rfl) (a := 0) (by omega)
          have t0 := tw2_le h0 (i := 0) (by omega)
          rw [n2]
          dsimp only
          by_cases p5 : tw2 x 0 ≤ 999
          · rw [if_neg (show ¬ (999 : Int32) < nI (tw2 x 0) from nI_nlt (a := 999) p5 (by omega))]
            have kt : ∃ b : Bool, (b = true ↔ ∀ p, p < L.np → tw2 x (2 + 54 * p) < 2 ^ L.nt) ∧ f_X3_hasKnownTitles 1 x = some (bi b, x) := by
              rw [e_X3_hasKnownTitles]
              have key : ∀ d p f, p + d = L.np → d < f → (∀ q, q < p → tw2 x (2 + 54 * q) < 2 ^ L.nt) → ∃ b : Bool, (b = true ↔ ∀ p, p < L.np → tw2 x (2 + 54 * p) < 2 ^ L.nt) ∧ f_X3_hasKnownTitles_2 1 f (nI p) x = some (bi b, x) := by
                intro d
                induction d with
                | zero =>
                  intro p f hp hf hok
                  obtain ⟨f, rfl⟩ : ∃ k, f = k + 1 := ⟨f - 1, by omega⟩
                  refine ⟨true, ⟨fun _ q hq => hok q (by omega), fun _ => rfl⟩, ?_⟩
                  rw [e_X3_hasKnownTitles_2]
                  dsimp only [ltt]
                  rw [hs.1, if_pos (landB_of hs.2.1), hl.1.2.1, if_pos (nI_le (by omega) (by omega))]
                  rfl
                | succ d ih =>
                  intro p f hp hf hok
                  obtain ⟨f, rfl⟩ : ∃ k, f = k + 1 := ⟨f - 1, by omega⟩
                  have tl := tw2_le h0 (i := 2 + 54 * p) (by omega)
                  rw [e_X3_hasKnownTitles_2]
                  dsimp only [ltt]
                  rw [hs.1, if_pos (landB_of hs.2.1), hl.1.2.1, if_neg (nI_ge (by omega) (by omega)), show (54 : Int32) = nI 54 from rfl, pk_mul, show (2 : Int32) = nI 2 from rfl, nI_add, Nat.mul_comm p 54]
                  have nx : f_X3_number 1 (nI (2 + 54 * p)) (nI 2) x = some (nI (tw2 x (2 + 54 * p)), x) := num2_X h0 (fun _ => rfl) (by omega)
                  rw [nx]
                  dsimp only [Option.bind]
                  rw [hs.1, if_pos (landB_of hs.2.1), all_X hl]
                  dsimp only
                  by_cases c : tw2 x (2 + 54 * p) < 2 ^ L.nt
                  · rw [if_pos (nI_le (by omega) (by omega)), nI_1]
                    exact ih (p + 1) f (by omega) (by omega) (fun q hq => by
                      by_cases e : q = p
                      · rw [e]; exact c
                      · exact hok q (by omega))
                  · rw [if_neg (nI_ge (by omega) (by omega))]
                    exact ⟨false, ⟨fun e => (by cases e), fun e => absurd (e p (by omega)) c⟩, rfl⟩
              exact key L.np 0 FU (by omega) (by rw [FU_eq]; omega) (fun q hq => by omega)
            obtain ⟨b6, i6, e6⟩ := kt
            rw [e6]
            dsimp only
            cases b6
            · rw [if_pos (by decide)]
              refine ⟨false, no _ (fun q => ?_) (fun o => o.2.2.2.2.2.1), rfl⟩
              have := i6.mpr q
              cases this
            · rw [if_neg (by decide)]
              have rb : ∃ b : Bool, (b = true ↔ ∀ i, i < tb x (hS L + 55) → 1 ≤ bS x L i) ∧ f_X3_hasRightBullets 1 (nI (hS L + 56)) (nI (tb x (hS L + 55))) x = some (bi b, x) := by
                rw [e_X3_hasRightBullets]
                have key : ∀ d i f, i + d = tb x (hS L + 55) → d < f → (∀ q, q < i → 1 ≤ bS x L q) → ∃ b : Bool, (b = true ↔ ∀ i, i < tb x (hS L + 55) → 1 ≤ bS x L i) ∧ f_X3_hasRightBullets_2 1 f (nI (hS L + 56)) (nI (tb x (hS L + 55))) (nI i) x = some (bi b, x) := by
                  intro d
                  induction d with
                  | zero =>
                    intro i f hi hf hok
                    obtain ⟨f, rfl⟩ : ∃ k, f = k + 1 := ⟨f - 1, by omega⟩
                    refine ⟨true, ⟨fun _ q hq => hok q (by omega), fun _ => rfl⟩, ?_⟩
                    rw [e_X3_hasRightBullets_2, if_pos (nI_le (by omega) (by omega))]
                    rfl
                  | succ d ih =>
                    intro i f hi hf hok
                    obtain ⟨f, rfl⟩ : ∃ k, f = k + 1 := ⟨f - 1, by omega⟩
                    have tl := tw2_le h0 (i := hS L + 56 + 2 * i) (by omega)
                    rw [e_X3_hasRightBullets_2, if_neg (nI_ge (by omega) (by omega)), show (2 : Int32) = nI 2 from rfl, pk_mul, nI_add]
                    have nx : f_X3_number 1 (nI (hS L + 56 + 2 * i)) (nI 2) x = some (nI (tw2 x (hS L + 56 + 2 * i)), x) := num2_X h0 (fun _ => rfl) (by omega)
                    rw [nx]
                    dsimp only [Option.bind]
                    by_cases c : 1 ≤ tw2 x (hS L + 56 + 2 * i)
                    · rw [if_pos (show (1 : Int32) ≤ nI (tw2 x (hS L + 56 + 2 * i)) from nI_le (a := 1) c (by omega)), nI_1]
                      exact ih (i + 1) f (by omega) (by omega) (fun q hq => by
                        by_cases e : q = i
                        · rw [e]; exact c
                        · exact hok q (by omega))
                    · rw [if_neg (show ¬ (1 : Int32) ≤ nI (tw2 x (hS L + 56 + 2 * i)) from nI_ge (b := 1) (by omega) (by omega))]
                      exact ⟨false, ⟨fun e => (by cases e), fun e => absurd (e i (by omega)) c⟩, rfl⟩
                exact key (tb x (hS L + 55)) 0 FU (by omega) (by rw [FU_eq]; omega) (fun q hq => by omega)
              obtain ⟨b7, i7, e7⟩ := rb
              rw [show (4 : Int32) = nI 4 from rfl, nI_add, show hS L + 52 + 4 = hS L + 56 by omega, e7]
              dsimp only
              cases b7
              · rw [if_pos (by decide)]
                refine ⟨false, no _ (fun q => ?_) (fun o => o.2.2.2.2.2.2.1), rfl⟩
                have := i7.mpr q
                cases this
              · rw [if_neg (by decide), light_X h h0 p2]
                dsimp only
                by_cases p8 : LEAD x ld L (tb x (hS L + 55)) ≤ 9999999 ∧ LETT x L ≤ 9999
                · rw [decide_eq_true p8, if_neg (by decide)]
                  exact ⟨true, ⟨fun _ => ⟨p1, p2, p3, p4, p5, i6.mp rfl, i7.mp rfl, p8.1, p8.2⟩, fun _ => rfl⟩, rfl⟩
                · rw [decide_eq_false p8, if_pos (by decide)]
                  exact ⟨false, no _ p8 (fun o => ⟨o.2.2.2.2.2.2.2.1, o.2.2.2.2.2.2.2.2⟩), rfl⟩
          · rw [if_pos (show (999 : Int32) < nI (tw2 x 0) from nI_lt (a := 999) (by omega) (by omega))]
            exact ⟨false, no _ p5 (fun o => o.2.2.2.2.1), rfl⟩
        · rw [if_neg p4]
          exact ⟨false, no _ p4 (fun o => o.2.2.2.1), rfl⟩
      · rw [if_neg (fun q => p3 (by have := (nI_eq (by omega) (by omega)).mp q; omega))]
        exact ⟨false, no _ p3 (fun o => o.2.2.1), rfl⟩
    · rw [if_pos (show (30 : Int32) < nI (tb x (hS L + 55)) from nI_lt (a := 30) (by omega) (by omega))]
      exact ⟨false, no _ p2 (fun o => o.2.1), rfl⟩
  · rw [if_pos (nI_lt (by omega) (by omega))]
    exact ⟨false, no _ p1 (fun o => o.1), rfl⟩
end FitsX
