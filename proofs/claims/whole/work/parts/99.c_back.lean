/-! ===== giveBack ===== -/
section Back
variable {ld bk : Nat} {L : LD} {x m : St}
def shf (i k : Nat) : Nat := if k < i then k else k + 1
theorem rem_X {i n : Nat} (hn : n ≤ 20) (hi : i < n) {x0 : St} (h1 : gI x0 21 1 = nI 3) : ∀ d j f (σ : St), j + d + 1 = n → i ≤ j → d < f → gI σ 21 4 = nI n → (∀ k c, k < j → c < 3 → gI σ 23 (3 * k + c) = gI x0 23 (3 * shf i k + c)) → (∀ k c, j ≤ k → c < 3 → gI σ 23 (3 * k + c) = gI x0 23 (3 * k + c)) → (∀ o k, o ≠ 22 → o ≠ 23 → gI σ o k = gI x0 o k) → (∀ o k, gR σ o k = gR x0 o k) → (∀ o k, gL σ o k = gL x0 o k) → ∃ σ', f_X8_remove_11 21 f (nI j) σ = some ((), σ') ∧ gI σ' 21 4 = nI (n - 1) ∧ (∀ k c, k < n - 1 → c < 3 → gI σ' 23 (3 * k + c) = gI x0 23 (3 * shf i k + c)) ∧ (∀ o k, o ≠ 22 → o ≠ 23 → ¬ (o = 21 ∧ k = 4) → gI σ' o k = gI x0 o k) ∧ (∀ o k, gR σ' o k = gR x0 o k) ∧ ∀ o k, gL σ' o k = gL x0 o k := by
  intro d
  induction d with
  | zero =>
    intro j f σ hj hij hf e4 a1 a2 a3 a4 a5
    obtain ⟨f, rfl⟩ : ∃ k, f = k + 1 := ⟨f - 1, by omega⟩
    refine ⟨sI σ 21 4 (nI (n - 1)), ?_, by rw [gI_sI, if_pos ⟨rfl, rfl⟩], fun k c hk hc => ?_, fun o k o1 o2 o3 => by rw [gI_sI, if_neg o3]; exact a3 o k o1 o2, a4, a5⟩
    · rw [e_X8_remove_11, e4, nI_1, if_pos (nI_le (by omega) (by omega)), show nI n - 1 = nI (n - 1) from pk_sub (a := n) (b := 1) (by omega)]
      rfl
    · rw [gI_sI, if_neg (by omega)]; exact a1 k c (by omega) hc
  | succ d ih =>
    intro j f σ hj hij hf e4 a1 a2 a3 a4 a5
    obtain ⟨f, rfl⟩ : ∃ k, f = k + 1 := ⟨f - 1, by omega⟩
    have e1 : ∀ (σ' : St), (∀ k, gI σ' 21 k = gI σ 21 k) → gI σ' 21 1 = nI 3 := fun σ' h => by rw [h, a3 21 1 (by decide) (by decide)]; exact h1
    let S0 := sI σ 22 j (gI σ 22 (j + 1))
    let S1 := sI S0 23 (3 * j) (gI S0 23 (3 * (j + 1)))
    let S2 := sI S1 23 (3 * j + 1) (gI S1 23 (3 * (j + 1) + 1))
    let S3 := sI S2 23 (3 * j + 2) (gI S2 23 (3 * (j + 1) + 2))
    have w0 : ∀ k, gI S0 21 k = gI σ 21 k := fun k => by show gI (sI σ 22 j _) 21 k = _; rw [gI_sI, if_neg (by omega)]
    have w1 : ∀ k, gI S1 21 k = gI σ 21 k := fun k => by show gI (sI S0 23 (3 * j) _) 21 k = _; rw [gI_sI, if_neg (by omega)]; exact w0 k
    have w2 : ∀ k, gI S2 21 k = gI σ 21 k := fun k => by show gI (sI S1 23 (3 * j + 1) _) 21 k = _; rw [gI_sI, if_neg (by omega)]; exact w1 k
    have w3 : ∀ k, gI S3 21 k = gI σ 21 k := fun k => by show gI (sI S2 23 (3 * j + 2) _) 21 k = _; rw [gI_sI, if_neg (by omega)]; exact w2 k
    have c0 : ∀ k, gI S0 23 k = gI σ 23 k := fun k => by show gI (sI σ 22 j _) 23 k = _; rw [gI_sI, if_neg (by omega)]
    have c3 : ∀ k, gI S3 23 k = if k = 3 * j + 2 then gI σ 23 (3 * (j + 1) + 2) else if k = 3 * j + 1 then gI σ 23 (3 * (j + 1) + 1) else if k = 3 * j then gI σ 23 (3 * (j + 1)) else gI σ 23 k := fun k => by
      have d1 : ∀ k, gI S1 23 k = if k = 3 * j then gI σ 23 (3 * (j + 1)) else gI σ 23 k := fun k => by
        show gI (sI S0 23 (3 * j) (gI S0 23 (3 * (j + 1)))) 23 k = _
        rw [gI_sI, c0, c0]
        by_cases e : k = 3 * j
        · rw [if_pos ⟨rfl, e⟩, if_pos e]
        · rw [if_neg (fun q => e q.2), if_neg e]
      have d2 : ∀ k, gI S2 23 k = if k = 3 * j + 1 then gI σ 23 (3 * (j + 1) + 1) else if k = 3 * j then gI σ 23 (3 * (j + 1)) else gI σ 23 k := fun k => by
        show gI (sI S1 23 (3 * j + 1) (gI S1 23 (3 * (j + 1) + 1))) 23 k = _
        rw [gI_sI, d1, d1, if_neg (show ¬ 3 * (j + 1) + 1 = 3 * j by omega)]
        by_cases e : k = 3 * j + 1
        · rw [if_pos ⟨rfl, e⟩, if_pos e]
        · rw [if_neg (fun q => e q.2), if_neg e]
      show gI (sI S2 23 (3 * j + 2) (gI S2 23 (3 * (j + 1) + 2))) 23 k = _
      rw [gI_sI, d2, d2, if_neg (show ¬ 3 * (j + 1) + 2 = 3 * j + 1 by omega), if_neg (show ¬ 3 * (j + 1) + 2 = 3 * j by omega)]
      by_cases e : k = 3 * j + 2
      · rw [if_pos ⟨rfl, e⟩, if_pos e]
      · rw [if_neg (fun q => e q.2), if_neg e]
    have st : f_X8_remove_11 21 (f + 1) (nI j) σ = f_X8_remove_11 21 f (nI (j + 1)) S3 := by
      obtain ⟨g, hg⟩ : ∃ g, FU = g + 4 := ⟨FU - 4, by rw [FU_eq]⟩
      rw [e_X8_remove_11, e4, nI_1, if_neg (nI_ge (by omega) (by omega)), show lnX (21 + 1) = 20 from rfl, if_pos (inb_nI (by omega) (by omega)), if_pos (inb_nI (by omega) (by omega)), ix_nI (by omega), ix_nI (by omega), hg]
      dsimp only [ltt]
      have q : ∀ (τ : St) (c u : Nat) (h : ∀ k, gI τ 21 k = gI σ 21 k), c < 3 → f_X8_remove_37 21 (f_X8_remove_11 21 f) (u + 1) (nI j) (nI c) τ = f_X8_remove_37 21 (f_X8_remove_11 21 f) u (nI j) (nI (c + 1)) (sI τ 23 (3 * j + c) (gI τ 23 (3 * (j + 1) + c))) := by
        intro τ c u h hc
        rw [e_X8_remove_37, e1 τ h, if_neg (nI_ge hc (by omega)), nI_1, nI_1, pk_mul, pk_mul, nI_add, nI_add, show lnX (21 + 2) = 60 from rfl, if_pos (inb_nI (by omega) (by omega)), if_pos (inb_nI (by omega) (by omega)), ix_nI (by omega), ix_nI (by omega), Nat.mul_comm j 3, Nat.mul_comm (j + 1) 3]
        rfl
      have q0 : f_X8_remove_37 21 (f_X8_remove_11 21 f) (g + 4) (nI j) 0 S0 = f_X8_remove_37 21 (f_X8_remove_11 21 f) (g + 3) (nI j) (nI 1) S1 := q S0 0 (g + 3) w0 (by omega)
      have q1 : f_X8_remove_37 21 (f_X8_remove_11 21 f) (g + 3) (nI j) (nI 1) S1 = f_X8_remove_37 21 (f_X8_remove_11 21 f) (g + 2) (nI j) (nI 2) S2 := q S1 1 (g + 2) w1 (by omega)
      have q2 : f_X8_remove_37 21 (f_X8_remove_11 21 f) (g + 2) (nI j) (nI 2) S2 = f_X8_remove_37 21 (f_X8_remove_11 21 f) (g + 1) (nI j) (nI 3) S3 := q S2 2 (g + 1) w2 (by omega)
      show f_X8_remove_37 21 (f_X8_remove_11 21 f) (g + 4) (nI j) 0 S0 = _
      rw [q0, q1, q2, e_X8_remove_37, e1 S3 w3, if_pos (nI_le (Nat.le_refl _) (by omega)), nI_1]
    rw [st]
    refine ih (j + 1) f S3 (by omega) (by omega) (by omega) (by rw [w3]; exact e4) (fun k c hk hc => ?_) (fun k c hk hc => ?_) (fun o k o1 o2 => ?_) a4 a5
    · rw [c3]
      by_cases e : k = j
      · subst e
        have sh : shf i k = k + 1 := by unfold shf; rw [if_neg (by omega)]
        have : c = 0 ∨ c = 1 ∨ c = 2 := by omega
        rcases this with rfl | rfl | rfl
        · rw [if_neg (by omega), if_neg (by omega), if_pos (by omega), sh]; exact a2 (k + 1) 0 (by omega) (by omega)
        · rw [if_neg (by omega), if_pos (by omega), sh]; exact a2 (k + 1) 1 (by omega) (by omega)
        · rw [if_pos (by omega), sh]; exact a2 (k + 1) 2 (by omega) (by omega)
      · rw [if_neg (by omega), if_neg (by omega), if_neg (by omega)]; exact a1 k c (by omega) hc
    · rw [c3, if_neg (by omega), if_neg (by omega), if_neg (by omega)]; exact a2 k c (by omega) hc
    · show gI (sI (sI (sI (sI σ 22 j _) 23 (3 * j) _) 23 (3 * j + 1) _) 23 (3 * j + 2) _) o k = _
      rw [gI_sI, if_neg (fun q => o2 q.1), gI_sI, if_neg (fun q => o2 q.1), gI_sI, if_neg (fun q => o2 q.1), gI_sI, if_neg (fun q => o1 q.1)]
      exact a3 o k o1 o2
theorem rem_M {i n : Nat} (hn : n ≤ 20) (hi : i < n) {m0 : St} (p q t : Int32) : ∀ d j f (σ : St), j + d + 1 = n → i ≤ j → d < f → gI σ 0 56 = nI (n - 1) → (∀ o k, o = 37 ∨ o = 38 ∨ o = 39 → k < j → gI σ o k = gI m0 o (shf i k)) → (∀ o k, o = 37 ∨ o = 38 ∨ o = 39 → j ≤ k → gI σ o k = gI m0 o k) → (∀ o k, o ≠ 37 → o ≠ 38 → o ≠ 39 → ¬ (o = 0 ∧ k = 56) → gI σ o k = gI m0 o k) → (∀ o k, gL σ o k = gL m0 o k) → ∃ σ', f_X11_giveBack_85 f p q t (nI j) σ = ((f_X11_ouncesOf t σ').bind fun q1 => (f_X11_notes (5 : Int32) q p q1.1 q1.2).bind fun q2 => some ((1 : Int32), q2.2)) ∧ gI σ' 0 56 = nI (n - 1) ∧ (∀ o k, o = 37 ∨ o = 38 ∨ o = 39 → k < n - 1 → gI σ' o k = gI m0 o (shf i k)) ∧ (∀ o k, o ≠ 37 → o ≠ 38 → o ≠ 39 → ¬ (o = 0 ∧ k = 56) → gI σ' o k = gI m0 o k) ∧ ∀ o k, gL σ' o k = gL m0 o k := by
  intro d
  induction d with
  | zero =>
    intro j f σ hj hij hf e a1 a2 a3 a4
    obtain ⟨f, rfl⟩ : ∃ k, f = k + 1 := ⟨f - 1, by omega⟩
    exact ⟨σ, by rw [e_X11_giveBack_85, e, if_pos (nI_le (by omega) (by omega))], e, fun o k ho hk => a1 o k ho (by omega), a3, a4⟩
  | succ d ih =>
    intro j f σ hj hij hf e a1 a2 a3 a4
    obtain ⟨f, rfl⟩ : ∃ k, f = k + 1 := ⟨f - 1, by omega⟩
    have st : f_X11_giveBack_85 (f + 1) p q t (nI j) σ = f_X11_giveBack_85 f p q t (nI (j + 1)) (sI (sI (sI σ 37 j (gI σ 37 (j + 1))) 38 j (gI σ 38 (j + 1))) 39 j (gI σ 39 (j + 1))) := by
      rw [e_X11_giveBack_85, e, if_neg (nI_ge (by omega) (by omega)), nI_1, inb_nI (show j + 1 < 20 by omega) (by omega), inb_nI (show j < 20 by omega) (by omega), ix_nI (show j + 1 < 2 ^ 31 by omega), ix_nI (show j < 2 ^ 31 by omega)]
      simp only [if_true, ltt]
      rw [gI_sI, if_neg (by omega), gI_sI, if_neg (by omega), gI_sI, if_neg (by omega)]
    rw [st]
    have cell : ∀ o k, o = 37 ∨ o = 38 ∨ o = 39 → gI (sI (sI (sI σ 37 j (gI σ 37 (j + 1))) 38 j (gI σ 38 (j + 1))) 39 j (gI σ 39 (j + 1))) o k = if k = j then gI σ o (j + 1) else gI σ o k := by
      intro o k ho
      rw [gI_sI, gI_sI, gI_sI]
      rcases ho with rfl | rfl | rfl
      · rw [if_neg (by omega), if_neg (by omega)]
        by_cases w : k = j
        · rw [if_pos ⟨rfl, w⟩, if_pos w]
        · rw [if_neg (fun z => w z.2), if_neg w]
      · rw [if_neg (by omega)]
        by_cases w : k = j
        · rw [if_pos ⟨rfl, w⟩, if_pos w]
        · rw [if_neg (fun z => w z.2), if_neg w, if_neg (by omega)]
      · by_cases w : k = j
        · rw [if_pos ⟨rfl, w⟩, if_pos w]
        · rw [if_neg (fun z => w z.2), if_neg w, if_neg (by omega), if_neg (by omega)]
    refine ih (j + 1) f _ (by omega) (by omega) (by omega) (by rw [gI_sI, if_neg (by omega), gI_sI, if_neg (by omega), gI_sI, if_neg (by omega)]; exact e) (fun o k ho hk => ?_) (fun o k ho hk => ?_) (fun o k o1 o2 o3 o4 => by rw [gI_sI, if_neg (fun z => o3 z.1), gI_sI, if_neg (fun z => o2 z.1), gI_sI, if_neg (fun z => o1 z.1)]; exact a3 o k o1 o2 o3 o4) a4
    · rw [cell o k ho]
      by_cases w : k = j
      · rw [if_pos w, w, show shf i j = j + 1 by unfold shf; rw [if_neg (by omega)]]; exact a2 o (j + 1) ho (by omega)
      · rw [if_neg w]; exact a1 o k ho (by omega)
    · rw [cell o k ho, if_neg (by omega)]; exact a2 o k ho (by omega)
end Back
