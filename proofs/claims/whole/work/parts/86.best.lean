/-! ===== bestSet ===== -/
def Bt (h : Nat → Nat) (n c d : Nat) : Prop := bsum h n d < bsum h n c ∨ (bsum h n c = bsum h n d ∧ (pc 12 c < pc 12 d ∨ (pc 12 c = pc 12 d ∧ c ≤ d)))
theorem Bt.rf {h : Nat → Nat} {n : Nat} (c : Nat) : Bt h n c c := Or.inr ⟨rfl, Or.inr ⟨rfl, Nat.le_refl _⟩⟩
theorem Bt.tr {h : Nat → Nat} {n a b c : Nat} (h1 : Bt h n a b) (h2 : Bt h n b c) : Bt h n a c := by
  unfold Bt at *
  omega
theorem Bt.as {h : Nat → Nat} {n a b : Nat} (h1 : Bt h n a b) (h2 : Bt h n b a) : a = b := by
  unfold Bt at *
  omega
def Fs (w : Nat → Nat) (n S lm c : Nat) : Prop := c < 2 ^ n ∧ c &&& S = c ∧ bsum w n c ≤ lm
def IsBest (h w : Nat → Nat) (n S lm R : Nat) : Prop := Fs w n S lm R ∧ ∀ c, Fs w n S lm c → Bt h n R c
theorem IsBest.un {h w : Nat → Nat} {n S lm R R' : Nat} (a : IsBest h w n S lm R) (b : IsBest h w n S lm R') : R = R' := (a.2 _ b.1).as (b.2 _ a.1)
theorem Fs.congr {w : Nat → Nat} {n S S' lm c : Nat} (h : ∀ p, p < n → S.testBit p = S'.testBit p) (f : Fs w n S lm c) : Fs w n S' lm c := by
  refine ⟨f.1, sub_of (fun p e => ?_), f.2.2⟩
  have := sub_t f.2.1 e
  by_cases q : p < n
  · rw [← h p q]; exact this
  · rw [tb_ge f.1 (by omega)] at e; cases e
theorem IsBest.congr {h w : Nat → Nat} {n S S' lm R : Nat} (e : ∀ p, p < n → S.testBit p = S'.testBit p) (a : IsBest h w n S lm R) : IsBest h w n S' lm R :=
  ⟨a.1.congr e, fun c f => a.2 c (f.congr (fun p hp => (e p hp).symm))⟩
theorem bsum_mod (B : Nat → Nat) (c : Nat) : ∀ i j, j ≤ i → bsum B j (c % 2 ^ i) = bsum B j c := by
  intro i j
  induction j with
  | zero => intro _; rfl
  | succ j ih => intro h; rw [bsum, bsum, ih (by omega), Nat.testBit_mod_two_pow, decide_eq_true (by omega), Bool.true_and]
theorem bsum_mono (B : Nat → Nat) (c : Nat) : ∀ i d, bsum B i c ≤ bsum B (i + d) c := by
  intro i d
  induction d with
  | zero => exact Nat.le_refl _
  | succ d ih => rw [show i + (d + 1) = (i + d) + 1 by omega, bsum]; omega
def tlr (h : Nat → Nat) (S n : Nat) : Nat → Nat
  | 0 => 0
  | d + 1 => tlr h S n d + if S.testBit (n - (d + 1)) = true then h (n - (d + 1)) else 0
theorem tlr_b {h : Nat → Nat} {S n c : Nat} (hc : c &&& S = c) : ∀ d, d ≤ n → bsum h n c ≤ bsum h (n - d) c + tlr h S n d := by
  intro d
  induction d with
  | zero => intro _; rw [tlr, Nat.sub_zero]; exact Nat.le_refl _
  | succ d ih =>
    intro hd
    have := ih (by omega)
    rw [show n - d = (n - (d + 1)) + 1 by omega, bsum] at this
    rw [tlr]
    by_cases q : c.testBit (n - (d + 1)) = true
    · rw [if_pos q] at this
      rw [if_pos (sub_t hc q)]
      omega
    · rw [if_neg q] at this
      omega
theorem tlr_le {h : Nat → Nat} {S n : Nat} (hh : ∀ t, t < n → h t ≤ 999) : ∀ d, d ≤ n → tlr h S n d ≤ 999 * d := by
  intro d
  induction d with
  | zero => intro _; exact Nat.le_refl _
  | succ d ih =>
    intro hd
    have := ih (by omega)
    have := hh (n - (d + 1)) (by omega)
    rw [tlr]
    split <;> omega
/-- the cells of the search -/
def CB (x : St) (h w : Nat → Nat) (n S : Nat) (R : Nat) (σ : St) : Prop := ScX x σ ∧ gI σ 24 7 = nI S ∧ gI σ 24 8 = nI n ∧ (∀ t, t < n → gI σ 25 t = nI (w t)) ∧ (∀ t, t < n → gI σ 26 t = nI (h t)) ∧ (∀ t, t ≤ n → gI σ 27 t = nI (tlr h S n (n - t))) ∧ gI σ 24 9 = nI R ∧ gI σ 24 10 = nI (bsum h n R)
theorem CB.set {x : St} {h w : Nat → Nat} {n S R : Nat} {σ : St} (a : CB x h w n S R σ) (c : Nat) : CB x h w n S c (sI (sI σ 24 9 (nI c)) 24 10 (nI (bsum h n c))) := by
  obtain ⟨a1, a2, a3, a4, a5, a6, -, -⟩ := a
  refine ⟨(a1.tr (ScX.sI rfl)).tr (ScX.sI rfl), ?_, ?_, fun t ht => ?_, fun t ht => ?_, fun t ht => ?_, ?_, ?_⟩
  · rw [gI_sI, if_neg (by omega), gI_sI, if_neg (by omega)]; exact a2
  · rw [gI_sI, if_neg (by omega), gI_sI, if_neg (by omega)]; exact a3
  · rw [gI_sI, if_neg (by omega), gI_sI, if_neg (by omega)]; exact a4 t ht
  · rw [gI_sI, if_neg (by omega), gI_sI, if_neg (by omega)]; exact a5 t ht
  · rw [gI_sI, if_neg (by omega), gI_sI, if_neg (by omega)]; exact a6 t ht
  · rw [gI_sI, if_neg (by omega), gI_sI, if_pos ⟨rfl, rfl⟩]
  · rw [gI_sI, if_pos ⟨rfl, rfl⟩]
theorem bs_le {h : Nat → Nat} {n : Nat} (n12 : n ≤ 12) (hh : ∀ t, t < n → h t ≤ 999) (c : Nat) : bsum h n c ≤ 11988 := by
  have h1 := bsum_le h n c
  have h2 := btot_le hh n (Nat.le_refl _)
  have : n * 999 ≤ 12 * 999 := Nat.mul_le_mul_right _ n12
  omega
theorem compare_X {x : St} {h w : Nat → Nat} {n S R c : Nat} {σ : St} (n12 : n ≤ 12) (hh : ∀ t, t < n → h t ≤ 999) (hR : R < 4096) (hc : c < 4096) (a : CB x h w n S R σ) : ∃ σ' R', f_X9_compare (nI c) (nI (bsum h n c)) σ = some ((), σ') ∧ CB x h w n S R' σ' ∧ Bt h n R' R ∧ Bt h n R' c ∧ (R' = R ∨ R' = c) := by
  have b1 := bs_le n12 hh c
  have b2 := bs_le n12 hh R
  have p1 := pc_le 12 R
  have p2 := pc_le 12 c
  rw [e_X9_compare, a.2.2.2.2.2.2.1, bits_X hR]
  dsimp only [Option.bind]
  rw [bits_X hc]
  dsimp only [ltt]
  rw [a.2.2.2.2.2.2.1, a.2.2.2.2.2.2.2]
  have z0 : (0 : Int32).toInt = 0 := rfl
  have ts : (nI (pc 12 R) - nI (pc 12 c)).toInt = (pc 12 R : Int) - pc 12 c := pk_sub_toInt (by omega) (by omega)
  by_cases c1 : bsum h n R < bsum h n c
  · rw [if_pos (nI_lt c1 (by omega))]
    exact ⟨_, c, rfl, a.set c, Or.inl c1, Bt.rf c, Or.inr rfl⟩
  rw [if_neg (nI_nlt (by omega) (by omega))]
  by_cases c2 : bsum h n c = bsum h n R
  · rw [if_pos (by rw [c2])]
    by_cases c3 : pc 12 c < pc 12 R
    · rw [if_pos (by rw [Int32.lt_iff_toInt_lt, ts, z0]; omega)]
      exact ⟨_, c, rfl, a.set c, Or.inr ⟨c2, Or.inl c3⟩, Bt.rf c, Or.inr rfl⟩
    rw [if_neg (fun q => by rw [Int32.lt_iff_toInt_lt, ts, z0] at q; omega)]
    by_cases c4 : pc 12 c = pc 12 R
    · rw [if_pos (Int32.toInt_inj.mp (by rw [ts, z0]; omega))]
      by_cases c5 : R ≤ c
      · rw [if_pos (nI_le c5 (by omega))]
        exact ⟨σ, R, rfl, a, Bt.rf R, Or.inr ⟨c2.symm, Or.inr ⟨c4.symm, c5⟩⟩, Or.inl rfl⟩
      · rw [if_neg (nI_ge (by omega) (by omega))]
        exact ⟨_, c, rfl, a.set c, Or.inr ⟨c2, Or.inr ⟨c4, by omega⟩⟩, Bt.rf c, Or.inr rfl⟩
    · rw [if_neg (fun q => by have := congrArg Int32.toInt q; rw [ts, z0] at this; omega)]
      exact ⟨σ, R, rfl, a, Bt.rf R, Or.inr ⟨c2.symm, Or.inl (by omega)⟩, Or.inl rfl⟩
  · rw [if_neg (fun q => c2 ((nI_eq (by omega) (by omega)).mp q))]
    exact ⟨σ, R, rfl, a, Bt.rf R, Or.inl (by omega), Or.inl rfl⟩
theorem bs_hi {B : Nat → Nat} {n i k : Nat} (hi : i < n) (hk : k < 2 ^ i) : bsum B n (2 ^ i + k) = bsum B n k + B i := by
  have h1 : 2 ^ i + k < 2 ^ (i + 1) := by rw [Nat.pow_succ]; omega
  have e1 := bsum_ge (B := B) h1 (n - (i + 1))
  have e2 := bsum_ge (B := B) hk (n - i)
  rw [show i + 1 + (n - (i + 1)) = n by omega] at e1
  rw [show i + (n - i) = n by omega] at e2
  rw [e1, e2, bsum_hi hk]
theorem mod_s {c i : Nat} : c % 2 ^ (i + 1) = c % 2 ^ i + if c.testBit i = true then 2 ^ i else 0 := by
  rw [Nat.pow_succ, Nat.mod_mul, Nat.testBit_eq_decide_div_mod_eq]
  have h2 : c / 2 ^ i % 2 < 2 := Nat.mod_lt _ (by omega)
  generalize c / 2 ^ i % 2 = u at h2
  have : u = 0 ∨ u = 1 := by omega
  rcases this with e | e <;> subst e
  · rw [Nat.mul_zero]; rfl
  · rw [Nat.mul_one]; rfl
theorem choose_X {x : St} {h w : Nat → Nat} {n S lm : Nat} (n12 : n ≤ 12) (hh : ∀ t, t < n → h t ≤ 999) (hw : ∀ t, t < n → w t ≤ 594) (hlm : lm ≤ 9999) (hS : S < 4096) : ∀ r d i k R σ, i + r = n → r < d → k < 2 ^ i → k &&& S = k → bsum w n k ≤ lm → R < 4096 → CB x h w n S R σ →
    ∃ σ' R', f_X9_choose d (nI i) (nI k) (nI (bsum h n k)) (nI (lm - bsum w n k)) σ = some ((), σ') ∧ CB x h w n S R' σ' ∧ R' < 4096 ∧ Bt h n R' R ∧ (R' = R ∨ Fs w n S lm R') ∧ ∀ c, Fs w n S lm c → c % 2 ^ i = k → Bt h n R' c := by
  intro r
  induction r with
  | zero =>
    intro d i k R σ hi hd hk hkS hkw hR a
    obtain ⟨d, rfl⟩ : ∃ k, d = k + 1 := ⟨d - 1, by omega⟩
    have : i = n := by omega
    subst this
    have h4 : 2 ^ i ≤ 2 ^ 12 := Nat.pow_le_pow_right (by omega) n12
    obtain ⟨σ', R', e, c1, c2, c3, c4⟩ := compare_X n12 hh hR (show k < 4096 by omega) a
    refine ⟨σ', R', ?_, c1, ?_, c2, ?_, fun c hc he => ?_⟩
    · rw [ed_X9_choose, e_X9_choose, if_neg (nI_pos (by omega)), a.2.2.1, if_neg (nI_nlt (Nat.le_refl _) (by omega)), e]
      rfl
    · rcases c4 with q | q <;> omega
    · rcases c4 with q | q
      · exact Or.inl q
      · exact Or.inr (by rw [q]; exact ⟨hk, hkS, hkw⟩)
    · rw [Nat.mod_eq_of_lt hc.1] at he
      rw [he]; exact c3
  | succ r ih =>
    intro d i k R σ hi hd hk hkS hkw hR a
    obtain ⟨d, rfl⟩ : ∃ k, d = k + 1 := ⟨d - 1, by omega⟩
    have hin : i < n := by omega
    have hk2 : k < 2 ^ (i + 1) := by rw [Nat.pow_succ]; omega
    have b1 := bs_le n12 hh k
    have b2 := bs_le n12 hh R
    have b3 := tlr_le hh (S := S) (n - i) (by omega)
    have hhi := hh i hin
    have hwi := hw i hin
    have e2h : bsum h n k = bsum h i k := by have := bsum_ge (B := h) hk (n - i); rw [show i + (n - i) = n by omega] at this; exact this
    have e2w : bsum w n k = bsum w i k := by have := bsum_ge (B := w) hk (n - i); rw [show i + (n - i) = n by omega] at this; exact this
    rw [ed_X9_choose, e_X9_choose, if_neg (nI_pos (by omega)), a.2.2.1, if_pos (nI_lt hin (by omega)), inb_nI (show i < 13 by omega) (by omega), if_pos rfl, ix_nI (by omega), a.2.2.2.2.2.1 i (by omega), a.2.2.2.2.2.2.2, nI_add]
    by_cases cp : bsum h n R ≤ bsum h n k + tlr h S n (n - i)
    · rw [if_pos (nI_le cp (by omega)), a.2.1, bit_I (by omega) (by omega), nI_1, inb_nI (show i < 12 by omega) (by omega), a.2.2.2.1 i hin, a.2.2.2.2.1 i hin]
      -- without it
      have no : ∀ R σ, R < 4096 → CB x h w n S R σ → ∃ σ' R', f_X9_choose d (nI (i + 1)) (nI k) (nI (bsum h n k)) (nI (lm - bsum w n k)) σ = some ((), σ') ∧ CB x h w n S R' σ' ∧ R' < 4096 ∧ Bt h n R' R ∧ (R' = R ∨ Fs w n S lm R') ∧ ∀ c, Fs w n S lm c → c % 2 ^ i = k → c.testBit i = false → Bt h n R' c := by
        intro R σ hR a
        obtain ⟨σ', R', e, c1, c2, c3, c4, c5⟩ := ih d (i + 1) k R σ (by omega) (by omega) hk2 hkS hkw hR a
        refine ⟨σ', R', e, c1, c2, c3, c4, fun c hc he hb => c5 c hc ?_⟩
        rw [mod_s, he, hb]
        rfl
      cases hb : S.testBit i
      · rw [if_pos (by decide)]
        obtain ⟨σ', R', e, c1, c2, c3, c4, c5⟩ := no R σ hR a
        rw [e]
        refine ⟨σ', R', rfl, c1, c2, c3, c4, fun c hc he => c5 c hc he ?_⟩
        cases q : c.testBit i
        · rfl
        · rw [sub_t hc.2.1 q] at hb; cases hb
      · rw [if_neg (by decide), if_pos rfl]
        by_cases cw : lm - bsum w n k < w i
        · rw [if_pos (nI_lt cw (by omega))]
          obtain ⟨σ', R', e, c1, c2, c3, c4, c5⟩ := no R σ hR a
          rw [e]
          refine ⟨σ', R', rfl, c1, c2, c3, c4, fun c hc he => c5 c hc he ?_⟩
          cases q : c.testBit i
          · rfl
          · exfalso
            have m1 := bsum_mono w c (i + 1) (n - (i + 1))
            rw [show i + 1 + (n - (i + 1)) = n by omega, bsum, if_pos q, ← bsum_mod w c i i (Nat.le_refl _), he, ← e2w] at m1
            have := hc.2.2
            omega
        · rw [if_neg (nI_nlt (by omega) (by omega)), p2_I (by omega), nI_or, nI_add, pk_sub (by omega)]
          have eor : k ||| 2 ^ i = 2 ^ i + k := by
            have := Nat.two_pow_add_eq_or_of_lt hk 1
            rw [Nat.mul_one] at this
            rw [Nat.or_comm, ← this]
          have eh := bs_hi (B := h) hin hk
          have ew := bs_hi (B := w) hin hk
          have hs2 : (2 ^ i + k) &&& S = 2 ^ i + k := sub_of (fun p e => by
            rcases Nat.lt_trichotomy p i with q | q | q
            · rw [Nat.testBit_two_pow_add_gt q] at e; exact sub_t hkS e
            · rw [q]; exact hb
            · rw [tb_ge (n := i + 1) (by rw [Nat.pow_succ]; omega) (by omega)] at e; cases e)
          obtain ⟨σ1, R1, e1, c1, c2, c3, c4, c5⟩ := ih d (i + 1) (2 ^ i + k) R σ (by omega) (by omega) (by rw [Nat.pow_succ]; omega) hs2 (by omega) hR a
          rw [eh, ew, show lm - (bsum w n k + w i) = lm - bsum w n k - w i by omega] at e1
          rw [eor, e1, if_pos rfl, if_pos rfl]
          dsimp only [Option.bind]
          obtain ⟨σ2, R2, e2, d1, d2, d3, d4, d5⟩ := no R1 σ1 c2 c1
          rw [e2]
          refine ⟨σ2, R2, rfl, d1, d2, d3.tr c3, ?_, fun c hc he => ?_⟩
          · rcases d4 with q | q
            · rcases c4 with q' | q'
              · exact Or.inl (q.trans q')
              · exact Or.inr (by rw [q]; exact q')
            · exact Or.inr q
          · cases q : c.testBit i
            · exact d5 c hc he q
            · refine d3.tr (c5 c hc ?_)
              rw [mod_s, he, q, if_pos rfl, Nat.add_comm]
    · rw [if_neg (nI_ge (by omega) (by omega))]
      refine ⟨σ, R, rfl, a, hR, Bt.rf R, Or.inl rfl, fun c hc he => Or.inl ?_⟩
      have m1 := tlr_b (h := h) (n := n) hc.2.1 (n - i) (by omega)
      rw [show n - (n - i) = i by omega, ← bsum_mod h c i i (Nat.le_refl _), he, ← e2h] at m1
      omega
