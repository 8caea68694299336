/-! ===== image ===== -/
theorem sh0 (v : Int32) : v >>> ((0 : Int32) &&& 31) = v := by
  apply Int32.toInt_inj.mp
  rw [pk_shr v _ 0 (by decide +kernel)]
  simp
section Image
variable {ld bk : Nat} {L : LD} {x m : St}
/-- the row of bytes as far as it is written -/
def IW (x m : St) (n : Nat) (σ τ : St) : Prop := (∀ o k, o ≠ 33 → ¬ (o = 32 ∧ k = 1) → gI σ o k = gI x o k) ∧ (∀ o k, gR σ o k = gR x o k) ∧ (∀ o k, gL σ o k = gL x o k) ∧ (∀ o k, o ≠ 45 → ¬ (o = 0 ∧ k = 72) → gI τ o k = gI m o k) ∧ (∀ o k, gL τ o k = gL m o k) ∧ gI σ 32 1 = nI n ∧ gI τ 0 72 = nI n ∧ ∀ i, i < n → gI σ 33 i = gI τ 45 i
theorem IW.b {n : Nat} {σ τ : St} (h : IW x m n σ τ) (v : Int32) : IW x m (n + 1) (sI (sI σ 33 n v) 32 1 (nI (n + 1))) (sI (sI τ 45 n v) 0 72 (nI (n + 1))) := by
  obtain ⟨a1, a2, a3, a4, a5, a6, a7, a8⟩ := h
  refine ⟨fun o k h1 h2 => by rw [gI_sI, if_neg h2, gI_sI, if_neg (fun q => h1 q.1)]; exact a1 o k h1 h2, a2, a3, fun o k h1 h2 => by rw [gI_sI, if_neg h2, gI_sI, if_neg (fun q => h1 q.1)]; exact a4 o k h1 h2, a5, by rw [gI_sI, if_pos ⟨rfl, rfl⟩], by rw [gI_sI, if_pos ⟨rfl, rfl⟩], fun i hi => ?_⟩
  rw [gI_sI, if_neg (by omega), gI_sI]
  by_cases e : i = n
  · rw [if_pos ⟨rfl, e⟩, gI_sI, if_neg (by omega), gI_sI, if_pos ⟨rfl, e⟩]
  · rw [if_neg (fun q => e q.2), gI_sI, if_neg (by omega), gI_sI, if_neg (fun q => e q.2)]; exact a8 i (by omega)
theorem put7 {n : Nat} {σ τ : St} (h : IW x m n σ τ) (hn : n < 551) (v : Int32) {s : Int32} (hs : ¬ s < 0) (f : Nat) : f_X3_put_7 (f + 1) v s σ = f_X3_put_7 f v (s + (-8)) (sI (sI σ 33 n ((v >>> (s &&& 31)) &&& 255)) 32 1 (nI (n + 1))) := by
  rw [e_X3_put_7, if_neg hs, h.2.2.2.2.2.1, if_neg (show ¬ (551 : Int32) ≤ nI n from nI_ge (b := 551) hn (by omega)), if_pos (inb_nI hn (by omega)), ix_nI (by omega)]
  dsimp only [ltt]
  rw [gI_sI, if_neg (by omega), h.2.2.2.2.2.1, nI_1]
theorem wr1 {n : Nat} {σ τ : St} (h : IW x m n σ τ) (hn : n < 551) (v : Int32) : f_X11_writes v τ = some ((), sI (sI τ 45 n (v &&& 255)) 0 72 (nI (n + 1))) := by
  rw [e_X11_writes, h.2.2.2.2.2.2.1, if_pos (inb_nI (by omega) (by omega)), ix_nI (by omega)]
  dsimp only [ltt]
  rw [gI_sI, if_neg (by omega), h.2.2.2.2.2.2.1, nI_1]
theorem put1B {n : Nat} {σ τ : St} (h : IW x m n σ τ) (hn : n < 551) (v : Int32) : ∃ σ' τ', f_X3_put v 1 σ = some ((), σ') ∧ f_X11_writes v τ = some ((), τ') ∧ IW x m (n + 1) σ' τ' := by
  refine ⟨_, _, ?_, wr1 h hn v, h.b _⟩
  obtain ⟨f, hf⟩ : ∃ f, FU = f + 2 := ⟨FU - 2, by rw [FU_eq]⟩
  rw [e_X3_put, hf]
  show f_X3_put_7 (f + 1 + 1) v 0 σ = _
  rw [put7 h hn v (by decide), sh0, e_X3_put_7, if_pos (by decide)]
theorem put2B {n : Nat} {σ τ : St} (h : IW x m n σ τ) (hn : n + 1 < 551) (v : Int32) : ∃ σ' τ', f_X3_put v 2 σ = some ((), σ') ∧ f_X11_writes2 v τ = some ((), τ') ∧ IW x m (n + 2) σ' τ' := by
  have h1 := h.b ((v >>> ((8 : Int32) &&& 31)) &&& 255)
  refine ⟨_, _, ?_, ?_, h1.b (v &&& 255)⟩
  · obtain ⟨f, hf⟩ : ∃ f, FU = f + 3 := ⟨FU - 3, by rw [FU_eq]⟩
    rw [e_X3_put, hf]
    show f_X3_put_7 (f + 2 + 1) v 8 σ = _
    rw [put7 h (by omega) v (by decide)]
    show f_X3_put_7 (f + 1 + 1) v 0 _ = _
    rw [put7 h1 (by omega) v (by decide), sh0, e_X3_put_7, if_pos (by decide)]
  · rw [e_X11_writes2, wr1 h (by omega)]
    dsimp only [Option.bind]
    rw [wr1 h1 (by omega)]
theorem put3B {n : Nat} {σ τ : St} (h : IW x m n σ τ) (hn : n + 2 < 551) (v : Int32) : ∃ σ' τ' τ1, f_X3_put v 3 σ = some ((), σ') ∧ f_X11_writes (v >>> ((16 : Int32) &&& 31)) τ = some ((), τ1) ∧ f_X11_writes2 v τ1 = some ((), τ') ∧ (∀ o k, o ≠ 45 → ¬ (o = 0 ∧ k = 72) → gI τ1 o k = gI m o k) ∧ IW x m (n + 3) σ' τ' := by
  have h1 := h.b ((v >>> ((16 : Int32) &&& 31)) &&& 255)
  have h2 := h1.b ((v >>> ((8 : Int32) &&& 31)) &&& 255)
  refine ⟨_, _, _, ?_, wr1 h (by omega) _, ?_, h1.2.2.2.1, h2.b (v &&& 255)⟩
  · obtain ⟨f, hf⟩ : ∃ f, FU = f + 4 := ⟨FU - 4, by rw [FU_eq]⟩
    rw [e_X3_put, hf]
    show f_X3_put_7 (f + 3 + 1) v 16 σ = _
    rw [put7 h (by omega) v (by decide)]
    show f_X3_put_7 (f + 2 + 1) v 8 _ = _
    rw [put7 h1 (by omega) v (by decide)]
    show f_X3_put_7 (f + 1 + 1) v 0 _ = _
    rw [put7 h2 (by omega) v (by decide), sh0, e_X3_put_7, if_pos (by decide)]
  · rw [e_X11_writes2, wr1 h1 (by omega)]
    dsimp only [Option.bind]
    rw [wr1 h2 (by omega)]
theorem let40 (h : K ld bk L x m) {p : Nat} (hp : p < 8) (KM : Int32 → St → Option (Int32 × St)) : ∀ d i f f' n σ τ, i + d = 26 → d < f → d < f' → IW x m n σ τ → n + 2 * d ≤ 550 → ∃ σ' τ', f_X3_putLetters_2 f (nI p) (nI i) σ = some ((), σ') ∧ f_X11_image_40 KM f' (nI p) (nI i) τ = KM (nI (p + 1)) τ' ∧ IW x m (n + 2 * d) σ' τ' := by
  intro d
  induction d with
  | zero =>
    intro i f f' n σ τ hi hf hf' w hn
    obtain ⟨f, rfl⟩ : ∃ k, f = k + 1 := ⟨f - 1, by omega⟩
    obtain ⟨f', rfl⟩ : ∃ k, f' = k + 1 := ⟨f' - 1, by omega⟩
    have : i = 26 := by omega
    subst this
    exact ⟨σ, τ, by rw [e_X3_putLetters_2, if_pos (by decide)], by rw [e_X11_image_40, if_pos (by decide), nI_1], w⟩
  | succ d ih =>
    intro i f f' n σ τ hi hf hf' w hn
    obtain ⟨f, rfl⟩ : ∃ k, f = k + 1 := ⟨f - 1, by omega⟩
    obtain ⟨f', rfl⟩ : ∃ k, f' = k + 1 := ⟨f' - 1, by omega⟩
    have lo := lo_e h (i := 26 * p + i) (by omega)
    have c1 : gI σ 8 (26 * p + i) = nI (loN x (26 * p + i)) := by rw [w.1 8 _ (by decide) (by omega)]; exact lo.1
    have c2 : gI τ 36 (26 * p + i) = nI (loN x (26 * p + i)) := by rw [w.2.2.2.1 36 _ (by decide) (by omega)]; exact lo.2.1
    obtain ⟨σ1, τ1, e1, e2, w1⟩ := put2B w (by omega) (nI (loN x (26 * p + i)))
    obtain ⟨σ', τ', f1, f2, w2⟩ := ih (i + 1) f f' (n + 2) σ1 τ1 (by omega) (by omega) (by omega) w1 (by omega)
    refine ⟨σ', τ', ?_, ?_, by rw [show n + 2 * (d + 1) = n + 2 + 2 * d by omega]; exact w2⟩
    · rw [e_X3_putLetters_2, if_neg (show ¬ (26 : Int32) ≤ nI i from nI_ge (b := 26) (by omega) (by omega)), count_X (by omega) (by omega), c1]
      dsimp only [Option.bind]
      rw [e1]
      dsimp only
      rw [nI_1]
      exact f1
    · rw [e_X11_image_40, if_neg (show ¬ (26 : Int32) ≤ nI i from nI_ge (b := 26) (by omega) (by omega)), show (26 : Int32) = nI 26 from rfl, pk_mul, nI_add, if_pos (inb_nI (by omega) (by omega)), ix_nI (by omega), c2, e2]
      dsimp only [Option.bind]
      rw [nI_1]
      exact f2
theorem let75 (h : K ld bk L x m) : ∀ d i f f' n σ τ, i + d = 26 → d < f → d < f' → IW x m n σ τ → n + 2 * d ≤ 550 → ∃ σ' τ', f_X3_putLetters_2 f 8 (nI i) σ = some ((), σ') ∧ f_X11_image_75 f' (nI i) τ = ((f_X11_writes ((gI τ' 0 55) >>> ((16 : Int32) &&& 31)) τ').bind fun q1 => (f_X11_writes2 (gI q1.2 0 55) q1.2).bind fun q2 => (f_X11_writes (gI q2.2 0 60) q2.2).bind fun q3 => f_X11_image_130 FU (0 : Int32) q3.2) ∧ IW x m (n + 2 * d) σ' τ' := by
  intro d
  induction d with
  | zero =>
    intro i f f' n σ τ hi hf hf' w hn
    obtain ⟨f, rfl⟩ : ∃ k, f = k + 1 := ⟨f - 1, by omega⟩
    obtain ⟨f', rfl⟩ : ∃ k, f' = k + 1 := ⟨f' - 1, by omega⟩
    have : i = 26 := by omega
    subst this
    exact ⟨σ, τ, by rw [e_X3_putLetters_2, if_pos (by decide)], by rw [e_X11_image_75, if_pos (by decide)], w⟩
  | succ d ih =>
    intro i f f' n σ τ hi hf hf' w hn
    obtain ⟨f, rfl⟩ : ∃ k, f = k + 1 := ⟨f - 1, by omega⟩
    obtain ⟨f', rfl⟩ : ∃ k, f' = k + 1 := ⟨f' - 1, by omega⟩
    have lo := lo_e h (i := 208 + i) (by omega)
    have c1 : gI σ 8 (208 + i) = nI (loN x (208 + i)) := by rw [w.1 8 _ (by decide) (by omega)]; exact lo.1
    have c2 : gI τ 36 (208 + i) = nI (loN x (208 + i)) := by rw [w.2.2.2.1 36 _ (by decide) (by omega)]; exact lo.2.1
    obtain ⟨σ1, τ1, e1, e2, w1⟩ := put2B w (by omega) (nI (loN x (208 + i)))
    obtain ⟨σ', τ', f1, f2, w2⟩ := ih (i + 1) f f' (n + 2) σ1 τ1 (by omega) (by omega) (by omega) w1 (by omega)
    refine ⟨σ', τ', ?_, ?_, by rw [show n + 2 * (d + 1) = n + 2 + 2 * d by omega]; exact w2⟩
    · rw [e_X3_putLetters_2, if_neg (show ¬ (26 : Int32) ≤ nI i from nI_ge (b := 26) (by omega) (by omega)), show (8 : Int32) = nI 8 from rfl, count_X (r := 8) (by omega) (by omega), show 26 * 8 + i = 208 + i from rfl, c1]
      dsimp only [Option.bind]
      rw [e1]
      dsimp only
      rw [nI_1]
      exact f1
    · rw [e_X11_image_75, if_neg (show ¬ (26 : Int32) ≤ nI i from nI_ge (b := 26) (by omega) (by omega)), show (208 : Int32) = nI 208 from rfl, nI_add, if_pos (inb_nI (by omega) (by omega)), ix_nI (by omega), c2, e2]
      dsimp only [Option.bind]
      rw [nI_1]
      exact f2
theorem per15 (h : K ld bk L x m) : ∀ d i f f' n σ τ, i + d = L.np → d < f → d < f' → IW x m n σ τ → n + 54 * d ≤ 550 → ∃ σ' τ', f_X3_write_16 f (nI i) σ = ((f_X3_putLetters (8 : Int32) σ').bind fun q2 => (f_X3_put (gI q2.2 6 2) (3 : Int32) q2.2).bind fun q3 => (f_X3_put (gI q3.2 6 3) (1 : Int32) q3.2).bind fun q4 => f_X3_write_79 FU (0 : Int32) q4.2) ∧ f_X11_image_15 f' (nI i) τ = f_X11_image_75 FU 0 τ' ∧ IW x m (n + 54 * d) σ' τ' := by
  obtain ⟨-, hs, hb, hl, hw, hd⟩ := id h
  have h8 := hl.1.1
  have hld := hs.2.1
  intro d
  induction d with
  | zero =>
    intro i f f' n σ τ hi hf hf' w hn
    obtain ⟨f, rfl⟩ : ∃ k, f = k + 1 := ⟨f - 1, by omega⟩
    obtain ⟨f', rfl⟩ : ∃ k, f' = k + 1 := ⟨f' - 1, by omega⟩
    have gn : gI σ (ld + 1) 4 = nI L.np := by rw [w.1 _ _ (by rcases hld with q | q <;> omega) (by rcases hld with q | q <;> omega)]; exact hl.1.2.1
    have gb : gI τ 0 12 = nI bk := by rw [w.2.2.2.1 0 12 (by decide) (by decide)]; exact hb.2
    have g3 : gI τ 3 bk = nI L.np := by rw [w.2.2.2.1 3 bk (by decide) (by omega)]; exact hl.1.2.2
    refine ⟨σ, τ, ?_, ?_, w⟩
    · rw [e_X3_write_16]
      dsimp only [ltt]
      rw [w.2.1, hs.1, if_pos (landB_of hld), gn, if_pos (nI_le (by omega) (by omega))]
    · rw [e_X11_image_15, gb, (bk_ix hb.1).1, if_pos rfl, (bk_ix hb.1).2, g3, if_pos (nI_le (by omega) (by omega))]
  | succ d ih =>
    intro i f f' n σ τ hi hf hf' w hn
    obtain ⟨f, rfl⟩ : ∃ k, f = k + 1 := ⟨f - 1, by omega⟩
    obtain ⟨f', rfl⟩ : ∃ k, f' = k + 1 := ⟨f' - 1, by omega⟩
    have gn : gI σ (ld + 1) 4 = nI L.np := by rw [w.1 _ _ (by rcases hld with q | q <;> omega) (by rcases hld with q | q <;> omega)]; exact hl.1.2.1
    have gb : gI τ 0 12 = nI bk := by rw [w.2.2.2.1 0 12 (by decide) (by decide)]; exact hb.2
    have g3 : gI τ 3 bk = nI L.np := by rw [w.2.2.2.1 3 bk (by decide) (by omega)]; exact hl.1.2.2
    obtain ⟨cN, c4, cx, cm⟩ := coat_cN hl hd (p := i) (by omega)
    have t1 : f_X2_titlesOf (nI i) σ = some (nI (coatN x i), σ) := by
      have c7 : gI σ 7 i = nI (coatN x i) := by rw [w.1 7 i (by decide) (by omega)]; exact cx
      rw [e_X2_titlesOf, if_neg (nI_pos (by omega))]
      first
        | rw [if_neg (show ¬ (8 : Int32) ≤ nI i from nI_ge (b := 8) (by omega) (by omega)), if_pos (inb_nI (by omega) (by omega)), ix_nI (by omega), c7]
        | rw [if_pos (show nI i < (8 : Int32) from nI_lt (b := 8) (by omega) (by omega)), if_pos (inb_nI (by omega) (by omega)), ix_nI (by omega), c7]
    have c35 : gI τ 35 i = nI (coatN x i) := by rw [w.2.2.2.1 35 i (by decide) (by omega)]; exact cm
    obtain ⟨σ1, τ1, e1, e2, w1⟩ := put2B w (by omega) (nI (coatN x i))
    obtain ⟨σ2, τ2, e3, e4, w2⟩ := let40 h (p := i) (by omega) (f_X11_image_15 f') 26 0 FU FU (n + 2) σ1 τ1 (by omega) (by rw [FU_eq]; omega) (by rw [FU_eq]; omega) w1 (by omega)
    obtain ⟨σ', τ', f1, f2, w3⟩ := ih (i + 1) f f' (n + 2 + 2 * 26) σ2 τ2 (by omega) (by omega) (by omega) w2 (by omega)
    refine ⟨σ', τ', ?_, ?_, by rw [show n + 54 * (d + 1) = n + 2 + 2 * 26 + 54 * d by omega]; exact w3⟩
    · rw [e_X3_write_16]
      dsimp only [ltt]
      rw [w.2.1, hs.1, if_pos (landB_of hld), gn, if_neg (nI_ge (by omega) (by omega)), t1]
      dsimp only [Option.bind]
      rw [e1]
      dsimp only
      have e3' : f_X3_putLetters (nI i) σ1 = some ((), σ2) := by rw [e_X3_putLetters]; exact e3
      rw [e3']
      dsimp only
      rw [nI_1]
      exact f1
    · rw [e_X11_image_15, gb, (bk_ix hb.1).1, if_pos rfl, (bk_ix hb.1).2, g3, if_neg (nI_ge (by omega) (by omega)), if_pos (inb_nI (by omega) (by omega)), ix_nI (by omega), c35, e2]
      dsimp only [Option.bind]
      exact Eq.trans e4 f2
end Image
