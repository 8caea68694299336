/-! ===== numbers on the tape ===== -/
def tb (x : St) (i : Nat) : Nat := (gI x 1 i).toNatClampNeg
def tw2 (x : St) (i : Nat) : Nat := 256 * tb x i + tb x (i + 1)
section Tape
variable {x m : St} {n0 : Nat}
theorem tb_e (h : RelA n0 x m) {i : Nat} (hi : i < 1600) : gI x 1 i = nI (tb x i) ∧ gI m 1 i = nI (tb x i) ∧ tb x i < 256 := by
  obtain ⟨b, hb, e1, e2⟩ := h.1.2.2.2 i hi
  have : tb x i = b := by rw [tb, e1, nI_clamp (by omega)]
  rw [this]; exact ⟨e1, e2, hb⟩
theorem tw2_le (h : RelA n0 x m) {i : Nat} (hi : i + 1 < 1600) : tw2 x i ≤ 65535 := by
  have h1 := (tb_e h (i := i) (by omega)).2.2
  have h2 := (tb_e h hi).2.2
  unfold tw2
  omega
theorem or8 {a b : Nat} (ha : a < 65536) (hb : b < 256) : (nI a <<< ((8 : Int32) &&& 31)) ||| nI b = nI (256 * a + b) := by
  rw [pk_shlN (n := a) ((8 : Int32) &&& 31) 8 (by decide +kernel) (by omega), nI_or, Nat.mul_comm a, ← Nat.two_pow_add_eq_or_of_lt (i := 8) (show b < 2 ^ 8 by omega) a]
theorem num_s (h : RelA n0 x m) {σ : St} (hσ : ∀ k, gI σ 1 k = gI x 1 k) {a w acc j : Nat} (hj : j < a + w) (hw : a + w ≤ 1600) (hacc : acc < 65536) (f : Nat) : f_X3_number_5 1 (f + 1) (nI a) (nI w) (nI acc) (nI j) σ = f_X3_number_5 1 f (nI a) (nI w) (nI (256 * acc + tb x j)) (nI (j + 1)) σ := by
  obtain ⟨e1, -, e3⟩ := tb_e h (i := j) (by omega)
  rw [e_X3_number_5, nI_add, if_neg (nI_ge hj (by omega)), if_neg (nI_pos (by omega)), show lnX 1 = 1600 from rfl, show Int32.ofNat 1600 = nI 1600 from rfl, if_neg (nI_ge (by omega) (by omega)), if_pos (inb_nI (by omega) (by omega)), ix_nI (by omega), hσ, e1]
  dsimp only [ltt]
  rw [or8 hacc e3, nI_1]
theorem num_e {σ : St} {a w acc j : Nat} (hj : j = a + w) (hw : a + w ≤ 1600) (f : Nat) : f_X3_number_5 1 (f + 1) (nI a) (nI w) (nI acc) (nI j) σ = some (nI acc, σ) := by
  rw [e_X3_number_5, nI_add, if_pos (nI_le (by omega) (by omega))]
theorem num1_X (h : RelA n0 x m) {σ : St} (hσ : ∀ k, gI σ 1 k = gI x 1 k) {a : Nat} (ha : a + 1 ≤ 1600) : f_X3_number 1 (nI a) 1 σ = some (nI (tb x a), σ) := by
  obtain ⟨f, hf⟩ : ∃ f, FU = f + 2 := ⟨FU - 2, by rw [FU_eq]⟩
  rw [e_X3_number, hf]
  show f_X3_number_5 1 (f + 1 + 1) (nI a) (nI 1) (nI 0) (nI a) σ = _
  rw [num_s h hσ (by omega) ha (by omega), num_e (by omega) ha]
  congr 2
  congr 1
  omega
theorem num2_X (h : RelA n0 x m) {σ : St} (hσ : ∀ k, gI σ 1 k = gI x 1 k) {a : Nat} (ha : a + 2 ≤ 1600) : f_X3_number 1 (nI a) 2 σ = some (nI (tw2 x a), σ) := by
  obtain ⟨f, hf⟩ : ∃ f, FU = f + 3 := ⟨FU - 3, by rw [FU_eq]⟩
  have b1 := (tb_e h (i := a) (by omega)).2.2
  rw [e_X3_number, hf]
  show f_X3_number_5 1 (f + 2 + 1) (nI a) (nI 2) (nI 0) (nI a) σ = _
  rw [num_s h hσ (by omega) ha (by omega), num_s h hσ (by omega) ha (by omega), num_e (by omega) ha]
  congr 2
  congr 1
  unfold tw2
  omega
theorem num3_X (h : RelA n0 x m) {σ : St} (hσ : ∀ k, gI σ 1 k = gI x 1 k) {a : Nat} (ha : a + 3 ≤ 1600) : f_X3_number 1 (nI a) 3 σ = some (nI (65536 * tb x a + tw2 x (a + 1)), σ) := by
  obtain ⟨f, hf⟩ : ∃ f, FU = f + 4 := ⟨FU - 4, by rw [FU_eq]⟩
  have b1 := (tb_e h (i := a) (by omega)).2.2
  have b2 := (tb_e h (i := a + 1) (by omega)).2.2
  rw [e_X3_number, hf]
  show f_X3_number_5 1 (f + 3 + 1) (nI a) (nI 3) (nI 0) (nI a) σ = _
  rw [num_s h hσ (by omega) ha (by omega), num_s h hσ (by omega) ha (by omega), num_s h hσ (by omega) ha (by omega), num_e (by omega) ha]
  congr 2
  congr 1
  unfold tw2
  omega
theorem two_M (h : RelA n0 x m) {τ : St} (hτ : ∀ k, gI τ 1 k = gI m 1 k) {a : Nat} (ha : a + 2 ≤ 1600) : f_X11_two (nI a) τ = some (nI (tw2 x a), τ) := by
  have e1 := (tb_e h (i := a) (by omega)).2.1
  have e2 := (tb_e h (i := a + 1) (by omega)).2.1
  rw [e_X11_two, if_pos (inb_nI (by omega) (by omega)), nI_1, if_pos (inb_nI (by omega) (by omega)), ix_nI (by omega), ix_nI (by omega), hτ, hτ, e1, e2, show (256 : Int32) = nI 256 from rfl, pk_mul, nI_add]
  rfl
-- the seal
theorem seal_X (h : RelA n0 x m) {σ : St} (hσ : ∀ k, gI σ 1 k = gI x 1 k) {n : Nat} (hn : n ≤ 1600) : ∀ d i f (c : Int32), i + d = n → d < f → f_X3_seal_5 1 f (nI n) c (nI i) σ = some (itr (fun c i => jrem (3 * c + gI x 1 i) 239) d c i, σ) := by
  intro d
  induction d with
  | zero =>
    intro i f c hi hf
    obtain ⟨f, rfl⟩ : ∃ k, f = k + 1 := ⟨f - 1, by omega⟩
    rw [e_X3_seal_5, if_pos (nI_le (by omega) (by omega))]
    rfl
  | succ d ih =>
    intro i f c hi hf
    obtain ⟨f, rfl⟩ : ∃ k, f = k + 1 := ⟨f - 1, by omega⟩
    rw [e_X3_seal_5, if_neg (nI_ge (by omega) (by omega)), show lnX 1 = 1600 from rfl, show Int32.ofNat 1600 = nI 1600 from rfl, if_neg (nI_ge (by omega) (by omega)), if_pos (inb_nI (by omega) (by omega)), ix_nI (by omega), hσ]
    dsimp only [ltt]
    rw [nI_1, ih (i + 1) f _ (by omega) (by omega)]
    rfl
end Tape
