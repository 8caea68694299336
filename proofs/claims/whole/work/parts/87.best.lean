/-! ===== bestSet on both sides; person ===== -/
section Best
variable {ld bk : Nat} {L : LD} {x m : St}
def hN (x : St) (ld t : Nat) : Nat := (honT x ld t).toNatClampNeg
def wN (x : St) (ld t : Nat) : Nat := (ozT x ld t).toNatClampNeg
theorem hN_e (hl : RLa ld bk L x m) {t : Nat} (ht : t < L.nt) : honT x ld t = nI (hN x ld t) ∧ hN x ld t ≤ 999 := by
  obtain ⟨-, ⟨k, hk, k1, -⟩, -⟩ := hl.2.2.2.2.2.2.1 t ht
  have k1 : honT x ld t = nI k := k1
  have : hN x ld t = k := by rw [hN, k1, nI_clamp (by omega)]
  rw [this]; exact ⟨k1, hk⟩
theorem wN_e (hl : RLa ld bk L x m) {t : Nat} (ht : t < L.nt) : ozT x ld t = nI (wN x ld t) ∧ wN x ld t ≤ 594 := by
  obtain ⟨k, hk, k1⟩ := ozT_b hl ht
  have : wN x ld t = k := by rw [wN, k1, nI_clamp (by omega)]
  rw [this]; exact ⟨k1, hk⟩
theorem sumT_s {f : Nat → Int32} {g : Nat → Nat} {N c : Nat} (h : ∀ t, t < N → f t = nI (g t)) : sumT f c N = nI (bsum g N c) := by
  have := itr_inv (g := fun (a : Int32) i => if c.testBit i = true then a + f i else a) (P := fun i a => a = nI (bsum g i c)) (N := N) (fun a i hi e => by
    rw [e, bsum]
    split
    · rw [h i hi, nI_add]
    · rw [Nat.add_zero]) N 0 0 (by omega) rfl
  rw [Nat.zero_add] at this
  exact this
theorem hon_s (hl : RLa ld bk L x m) (c : Nat) : sumT (honT x ld) c L.nt = nI (bsum (hN x ld) L.nt c) := sumT_s (fun t ht => (hN_e hl ht).1)
theorem oz_s (hl : RLa ld bk L x m) (c : Nat) : sumT (ozT x ld) c L.nt = nI (bsum (wN x ld) L.nt c) := sumT_s (fun t ht => (wN_e hl ht).1)
theorem ozb (hl : RLa ld bk L x m) (c : Nat) : bsum (wN x ld) L.nt c ≤ 7128 := by
  have h1 := bsum_le (wN x ld) L.nt c
  have h2 := btot_le (fun t ht => (wN_e hl ht).2) L.nt (Nat.le_refl _)
  have : L.nt * 594 ≤ 12 * 594 := Nat.mul_le_mul_right _ hl.2.1.1
  omega
theorem Tc (hs : RSt ld x) {σ : St} (h : ScX x σ) (t : Nat) : honT σ ld t = honT x ld t ∧ ozT σ ld t = ozT x ld t := by
  have xl : ∀ k, gI σ (ld + 6) k = gI x (ld + 6) k := by
    intro k
    refine h.1 _ _ ?_
    rcases hs.2.1 with rfl | rfl <;> rfl
  exact ⟨xl _, xl _⟩
theorem best_X (hs : RSt ld x) (hb : RBk bk m) (hl : RLa ld bk L x m) (hd : RDy L x m) {S lm : Nat} (hS : S < 4096) (hlm : lm ≤ 9999) : ∃ R σ', IsBest (hN x ld) (wN x ld) L.nt S lm R ∧ ScX x σ' ∧ f_X9_bestSet ld (nI S) (nI lm) x = some (nI R, σ') := by
  have n12 := hl.2.1.1
  have hh : ∀ t, t < L.nt → hN x ld t ≤ 999 := fun t ht => (hN_e hl ht).2
  have hw : ∀ t, t < L.nt → wN x ld t ≤ 594 := fun t ht => (wN_e hl ht).2
  have m1 : ∀ d, nI d + (-1) = nI d - 1 := fun d => (Int32.sub_eq_add_neg _ _).symm
  have key : ∀ d n σ, d ≤ L.nt → d < n → ScX x σ → gI σ 24 7 = nI S → gI σ 24 8 = nI L.nt → (∀ t, d ≤ t → t < L.nt → gI σ 25 t = nI (wN x ld t)) → (∀ t, d ≤ t → t < L.nt → gI σ 26 t = nI (hN x ld t)) → (∀ t, d ≤ t → t ≤ L.nt → gI σ 27 t = nI (tlr (hN x ld) S L.nt (L.nt - t))) → ∃ R σ', IsBest (hN x ld) (wN x ld) L.nt S lm R ∧ ScX x σ' ∧ f_X9_bestSet_39 ld n (nI S) (nI lm) (nI d - 1) σ = some (nI R, σ') := by
    intro d
    induction d with
    | zero =>
      intro n σ _ hn h1 h2 h3 h4 h5 h6
      obtain ⟨n, rfl⟩ : ∃ k, n = k + 1 := ⟨n - 1, by omega⟩
      rw [e_X9_bestSet_39, if_pos (by decide)]
      dsimp only [ltt]
      have cb : CB x (hN x ld) (wN x ld) L.nt S 0 (sI (sI σ 24 9 0) 24 10 0) := by
        have z : bsum (hN x ld) L.nt 0 = 0 := by
          have : ∀ j, bsum (hN x ld) j 0 = 0 := by
            intro j
            induction j with
            | zero => rfl
            | succ j ih => rw [bsum, ih, Nat.zero_testBit]; rfl
          exact this _
        refine ⟨(h1.tr (ScX.sI rfl)).tr (ScX.sI rfl), ?_, ?_, fun t ht => ?_, fun t ht => ?_, fun t ht => ?_, ?_, ?_⟩
        · rw [gI_sI, if_neg (by omega), gI_sI, if_neg (by omega)]; exact h2
        · rw [gI_sI, if_neg (by omega), gI_sI, if_neg (by omega)]; exact h3
        · rw [gI_sI, if_neg (by omega), gI_sI, if_neg (by omega)]; exact h4 t (by omega) ht
        · rw [gI_sI, if_neg (by omega), gI_sI, if_neg (by omega)]; exact h5 t (by omega) ht
        · rw [gI_sI, if_neg (by omega), gI_sI, if_neg (by omega)]; exact h6 t (by omega) ht
        · rw [gI_sI, if_neg (by omega), gI_sI, if_pos ⟨rfl, rfl⟩]; rfl
        · rw [gI_sI, if_pos ⟨rfl, rfl⟩, z]; rfl
      have zz : ∀ (B : Nat → Nat) j, bsum B j 0 = 0 := by
        intro B j
        induction j with
        | zero => rfl
        | succ j ih => rw [bsum, ih, Nat.zero_testBit]; rfl
      obtain ⟨σ', R, e, c1, c2, c3, c4, c5⟩ := choose_X n12 hh hw hlm hS L.nt 24 0 0 0 _ (by omega) (by omega) (by decide) (Nat.zero_and _) (by rw [zz]; omega) (by omega) cb
      rw [zz, zz, Nat.sub_zero] at e
      have e' : f_X9_choose 24 0 0 0 (nI lm) (sI (sI σ 24 9 0) 24 10 0) = some ((), σ') := e
      rw [e']
      dsimp only [Option.bind]
      rw [c1.2.2.2.2.2.2.1]
      refine ⟨R, σ', ⟨?_, fun c hc => c5 c hc (by rw [Nat.pow_zero, Nat.mod_one])⟩, c1.1, rfl⟩
      rcases c4 with q | q
      · rw [q]; exact ⟨Nat.two_pow_pos _, Nat.zero_and _, by rw [zz]; omega⟩
      · exact q
    | succ d ih =>
      intro n σ hdn hn h1 h2 h3 h4 h5 h6
      obtain ⟨n, rfl⟩ : ∃ k, n = k + 1 := ⟨n - 1, by omega⟩
      have hdt : d < L.nt := by omega
      have T1 : ∀ σ, ScX x σ → f_X4_titleOunces ld (nI d) σ = some (nI (wN x ld d), σ) := by
        intro σ h
        obtain ⟨s', b', l', d'⟩ := scrP h (ScM.rf m) hs hb hl hd
        rw [e_X4_titleOunces, getT1 s' l' hdt]
        dsimp only [Option.bind]
        rw [(Tc hs h d).2, (wN_e hl hdt).1]
      have T0 : ∀ σ, ScX x σ → f_X8_get (ld + 4) (nI d) 0 σ = some (nI (hN x ld d), σ) := by
        intro σ h
        obtain ⟨s', b', l', d'⟩ := scrP h (ScM.rf m) hs hb hl hd
        rw [getT0 s' l' hdt, (Tc hs h d).1, (hN_e hl hdt).1]
      have q1 : ScX x (sI σ 25 d (nI (wN x ld d))) := h1.tr (ScX.sI rfl)
      have q2 : ScX x (sI (sI σ 25 d (nI (wN x ld d))) 26 d (nI (hN x ld d))) := q1.tr (ScX.sI rfl)
      have v27 : gI (sI (sI σ 25 d (nI (wN x ld d))) 26 d (nI (hN x ld d))) 27 (d + 1) = nI (tlr (hN x ld) S L.nt (L.nt - (d + 1))) := by
        rw [gI_sI, if_neg (by omega), gI_sI, if_neg (by omega)]; exact h6 (d + 1) (by omega) (by omega)
      have v26 : gI (sI (sI σ 25 d (nI (wN x ld d))) 26 d (nI (hN x ld d))) 26 d = nI (hN x ld d) := by rw [gI_sI, if_pos ⟨rfl, rfl⟩]
      have et : tlr (hN x ld) S L.nt (L.nt - d) = tlr (hN x ld) S L.nt (L.nt - (d + 1)) + if S.testBit d = true then hN x ld d else 0 := by
        rw [show L.nt - d = (L.nt - (d + 1)) + 1 by omega, tlr, show L.nt - (L.nt - (d + 1) + 1) = d by omega]
      have fin := ih n (sI (sI (sI σ 25 d (nI (wN x ld d))) 26 d (nI (hN x ld d))) 27 d (nI (tlr (hN x ld) S L.nt (L.nt - d)))) (by omega) (by omega) (q2.tr (ScX.sI rfl))
        (by rw [gI_sI, if_neg (by omega), gI_sI, if_neg (by omega), gI_sI, if_neg (by omega)]; exact h2)
        (by rw [gI_sI, if_neg (by omega), gI_sI, if_neg (by omega), gI_sI, if_neg (by omega)]; exact h3)
        (fun t ht1 ht2 => by
          rw [gI_sI, if_neg (by omega), gI_sI, if_neg (by omega), gI_sI]
          by_cases q : t = d
          · rw [if_pos ⟨rfl, q⟩, q]
          · rw [if_neg (fun e => q e.2)]; exact h4 t (by omega) ht2)
        (fun t ht1 ht2 => by
          rw [gI_sI, if_neg (by omega), gI_sI]
          by_cases q : t = d
          · rw [if_pos ⟨rfl, q⟩, q]
          · rw [if_neg (fun e => q e.2), gI_sI, if_neg (by omega)]; exact h5 t (by omega) ht2)
        (fun t ht1 ht2 => by
          rw [gI_sI]
          by_cases q : t = d
          · rw [if_pos ⟨rfl, q⟩, q]
          · rw [if_neg (fun e => q e.2), gI_sI, if_neg (by omega), gI_sI, if_neg (by omega)]; exact h6 t (by omega) ht2)
      rw [← m1] at fin
      rw [nI_pred, e_X9_bestSet_39, if_neg (nI_pos (by omega)), bit_I (by omega) (by omega), T1 σ h1]
      dsimp only [Option.bind, ltt]
      rw [inb_nI (show d < 12 by omega) (by omega), inb_nI (show d < 13 by omega) (by omega), nI_1, inb_nI (show d + 1 < 13 by omega) (by omega), ix_nI (by omega), ix_nI (by omega)]
      simp only [if_true]
      rw [T0 _ q1]
      dsimp only
      rw [v27, v26]
      cases hbt : S.testBit d
      · rw [if_pos (by decide)]
        rw [hbt, if_neg (by decide)] at et
        rw [et] at fin
        rw [show (0 : Int32) = nI 0 from rfl, nI_add]
        exact fin
      · rw [if_neg (by decide), if_neg (by decide), nI_add]
        rw [hbt, if_pos rfl] at et
        rw [et] at fin
        exact fin
  rw [e_X9_bestSet]
  dsimp only [ltt]
  have g4 : gI (sI x 24 7 (nI S)) (ld + 4) 4 = nI L.nt := by
    rw [gI_sI, if_neg (fun e => by rcases hs.2.1 with h | h <;> omega)]; exact hl.2.1.2.1
  rw [g4, show (12 : Int32) = nI 12 from rfl, min_I (by omega) (by omega), show min 12 L.nt = L.nt by omega]
  dsimp only [Option.bind]
  have g8 : gI (sI (sI x 24 7 (nI S)) 24 8 (nI L.nt)) 24 8 = nI L.nt := by rw [gI_sI, if_pos ⟨rfl, rfl⟩]
  rw [g8, if_pos (inb_nI (by omega) (by omega)), ix_nI (by omega)]
  have g9 : gI (sI (sI (sI x 24 7 (nI S)) 24 8 (nI L.nt)) 27 L.nt 0) 24 8 = nI L.nt := by rw [gI_sI, if_neg (by omega), gI_sI, if_pos ⟨rfl, rfl⟩]
  rw [g9]
  refine key L.nt FU _ (Nat.le_refl _) (by rw [FU_eq]; omega) (((ScX.sI rfl).tr (ScX.sI rfl)).tr (ScX.sI rfl)) ?_ g9 (fun t h1 h2 => by omega) (fun t h1 h2 => by omega) (fun t h1 h2 => ?_)
  · rw [gI_sI, if_neg (by omega), gI_sI, if_neg (by omega), gI_sI, if_pos ⟨rfl, rfl⟩]
  · have : t = L.nt := by omega
    rw [this, gI_sI, if_pos ⟨rfl, rfl⟩, Nat.sub_self]
    rfl
theorem best_M (hb : RBk bk m) (hl : RLa ld bk L x m) {S lm : Nat} (hS : S < 4096) (hlm : lm ≤ 9999) : ∃ R, IsBest (hN x ld) (wN x ld) L.nt S lm R ∧ f_X11_bestSet (nI S) (nI lm) m = some (nI R, m) := by
  have n12 := hl.2.1.1
  have hh : ∀ t, t < L.nt → hN x ld t ≤ 999 := fun t ht => (hN_e hl ht).2
  have h4 : 2 ^ L.nt ≤ 2 ^ 12 := Nat.pow_le_pow_right (by omega) n12
  have h0 : 0 < 2 ^ L.nt := Nat.two_pow_pos _
  have zz : ∀ (B : Nat → Nat) j, bsum B j 0 = 0 := by
    intro B j
    induction j with
    | zero => rfl
    | succ j ih => rw [bsum, ih, Nat.zero_testBit]; rfl
  obtain ⟨R, ⟨r1, r2, r3⟩, e⟩ := loop_exF (fun n (R : Nat) i => f_X11_bestSet_8 n (nI S) (nI lm) (nI R) (nI (bsum (hN x ld) L.nt R)) (nI (i + 1)) m) (fun R => some (nI R, m)) (2 ^ L.nt - 1) (by omega) (fun i R => R ≤ i ∧ Fs (wN x ld) L.nt S lm R ∧ ∀ c, c ≤ i → Fs (wN x ld) L.nt S lm c → Bt (hN x ld) L.nt R c) (fun n R h => by
    rw [e_X11_bestSet_8, hb.2, (bk_ix hb.1).1, if_pos rfl, (bk_ix hb.1).2, hl.2.1.2.2, p2_I (by omega), if_pos (nI_le (by omega) (by omega))]) (fun n R i hi h => by
    obtain ⟨r1, r2, r3⟩ := h
    have keep : Bt (hN x ld) L.nt R (i + 1) ∨ ¬ Fs (wN x ld) L.nt S lm (i + 1) → ∀ c, c ≤ i + 1 → Fs (wN x ld) L.nt S lm c → Bt (hN x ld) L.nt R c := by
      intro q c hc hf
      by_cases e : c = i + 1
      · rw [e] at hf ⊢
        rcases q with q | q
        · exact q
        · exact absurd hf q
      · exact r3 c (by omega) hf
    have take : Bt (hN x ld) L.nt (i + 1) R → ∀ c, c ≤ i + 1 → Fs (wN x ld) L.nt S lm c → Bt (hN x ld) L.nt (i + 1) c := by
      intro q c hc hf
      by_cases e : c = i + 1
      · rw [e]; exact Bt.rf _
      · exact q.tr (r3 c (by omega) hf)
    have b1 := bs_le n12 hh (i + 1)
    have b2 := bs_le n12 hh R
    have b3 := ozb hl (i + 1)
    have p1 := pc_le 12 (i + 1)
    have p2 := pc_le 12 R
    rw [e_X11_bestSet_8, hb.2, (bk_ix hb.1).1, if_pos rfl, (bk_ix hb.1).2, hl.2.1.2.2, p2_I (by omega), if_neg (nI_ge (by omega) (by omega)), nI_and, nI_1]
    by_cases c1 : (i + 1) &&& S = i + 1
    · rw [if_pos (by rw [c1]), sum_M hb hl (by omega), if_pos rfl, oz_s hl]
      dsimp only [Option.bind]
      by_cases c2 : bsum (wN x ld) L.nt (i + 1) ≤ lm
      · have hf : Fs (wN x ld) L.nt S lm (i + 1) := ⟨by omega, c1, c2⟩
        rw [if_pos (nI_le c2 (by omega)), sum_M hb hl (by omega), if_neg (by decide), hon_s hl]
        dsimp only
        rcases Nat.lt_trichotomy (bsum (hN x ld) L.nt (i + 1)) (bsum (hN x ld) L.nt R) with q | q | q
        · rw [if_pos (nI_lt q (by omega))]
          exact ⟨R, rfl, by omega, r2, keep (Or.inl (Or.inl q))⟩
        · rw [if_neg (nI_nlt (by omega) (by omega)), if_pos (by rw [q]), bits_M (by omega)]
          dsimp only
          rw [bits_M (by omega)]
          dsimp only
          by_cases c3 : pc 12 (i + 1) < pc 12 R
          · rw [if_pos (nI_lt c3 (by omega))]
            exact ⟨i + 1, rfl, Nat.le_refl _, hf, take (Or.inr ⟨q, Or.inl c3⟩)⟩
          · rw [if_neg (nI_nlt (by omega) (by omega))]
            exact ⟨R, rfl, by omega, r2, keep (Or.inl (Or.inr ⟨q.symm, by omega⟩))⟩
        · rw [if_neg (nI_nlt (by omega) (by omega)), if_neg (fun e => by have := (nI_eq (by omega) (by omega)).mp e; omega)]
          exact ⟨i + 1, rfl, Nat.le_refl _, hf, take (Or.inl q)⟩
      · rw [if_neg (nI_ge (by omega) (by omega))]
        exact ⟨R, rfl, by omega, r2, keep (Or.inr (fun f => c2 f.2.2))⟩
    · rw [if_neg (fun e => c1 ((nI_eq (Nat.lt_of_le_of_lt Nat.and_le_left (by omega)) (by omega)).mp e))]
      exact ⟨R, rfl, by omega, r2, keep (Or.inr (fun f => c1 f.2.1))⟩) 0 ⟨Nat.le_refl _, ⟨h0, Nat.zero_and _, by rw [zz]; omega⟩, fun c hc _ => (by rw [show c = 0 by omega]; exact Bt.rf _)⟩
  refine ⟨R, ⟨r2, fun c hc => r3 c (by have := hc.1; omega) hc⟩, ?_⟩
  rw [e_X11_bestSet]
  have e' : f_X11_bestSet_8 FU (nI S) (nI lm) 0 (nI (bsum (hN x ld) L.nt 0)) 1 m = some (nI R, m) := e
  rw [zz] at e'
  exact e'
end Best
