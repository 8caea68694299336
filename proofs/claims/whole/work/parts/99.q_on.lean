/-! ===== the row of numbers is taken over, here ===== -/
section RestX
variable {ld bk : Nat} {L : LD} {x m : St} {n0 : Nat}
theorem rl_X (h0 : RelA n0 x m) {σ : St} (hσ : ∀ k, gI σ 1 k = gI x 1 k) {a r : Nat} (ha : a + 52 ≤ 1600) (hr : r ≤ 8) : ∃ σ', f_X3_restoreLetters 1 (nI a) (nI r) σ = some ((), σ') ∧ (∀ o k, o ≠ 8 → gI σ' o k = gI σ o k) ∧ (∀ o k, gR σ' o k = gR σ o k) ∧ (∀ o k, gL σ' o k = gL σ o k) ∧ ∀ j, j < 234 → gI σ' 8 j = if j / 26 = r then nI (tw2 x (a + 2 * (j % 26))) else gI σ 8 j := by
  obtain ⟨σ', ⟨b1, b2, b3, b4⟩, e⟩ := loop_exF (fun n (τ : St) i => f_X3_restoreLetters_3 1 n (nI a) (nI r) (nI i) τ) (fun τ => some ((), τ)) 26 (by omega) (fun i τ => (∀ o k, o ≠ 8 → gI τ o k = gI σ o k) ∧ (∀ o k, gR τ o k = gR σ o k) ∧ (∀ o k, gL τ o k = gL σ o k) ∧ ∀ j, j < 234 → gI τ 8 j = if j / 26 = r ∧ j % 26 < i then nI (tw2 x (a + 2 * (j % 26))) else gI σ 8 j) (fun n τ hτ => by
    rw [e_X3_restoreLetters_3, if_pos (by decide)]) (fun n τ i hi hτ => by
    obtain ⟨b1, b2, b3, b4⟩ := hτ
    refine ⟨sI τ 8 (26 * r + i) (nI (tw2 x (a + 2 * i))), ?_, fun o k ho => by rw [gI_sI, if_neg (fun q => ho q.1)]; exact b1 o k ho, b2, b3, fun j hj => ?_⟩
    · rw [e_X3_restoreLetters_3, if_neg (show ¬ (26 : Int32) ≤ nI i from nI_ge (b := 26) hi (by omega)), show (2 : Int32) = nI 2 from rfl, pk_mul, nI_add]
      have nx : f_X3_number 1 (nI (a + 2 * i)) (nI 2) τ = some (nI (tw2 x (a + 2 * i)), τ) := num2_X h0 (fun k => by rw [b1 1 k (by decide)]; exact hσ k) (by omega)
      rw [nx]
      dsimp only [Option.bind]
      rw [count_X hr hi]
      dsimp only
      rw [change_X hr hi, Int32.add_comm, Int32.sub_add_cancel, nI_1]
    · rw [gI_sI]
      by_cases e : j = 26 * r + i
      · rw [if_pos ⟨rfl, e⟩, if_pos (by omega), show j % 26 = i by omega]
      · rw [if_neg (fun q => e q.2), b4 j hj]
        by_cases c : j / 26 = r ∧ j % 26 < i
        · rw [if_pos c, if_pos (by omega)]
        · rw [if_neg c, if_neg (by omega)]) σ ⟨fun _ _ _ => rfl, fun _ _ => rfl, fun _ _ => rfl, fun j hj => by rw [if_neg (by omega)]⟩
  refine ⟨σ', ?_, b1, b2, b3, fun j hj => ?_⟩
  · rw [e_X3_restoreLetters]; exact e
  · rw [b4 j hj]
    by_cases c : j / 26 = r
    · rw [if_pos c, if_pos ⟨c, by omega⟩]
    · rw [if_neg c, if_neg (fun q => c q.1)]
theorem fill_X (v : Int32) (σ : St) : ∃ σ', f_J7_fill_53178 10 v σ = some ((), σ') ∧ (∀ o k, o ≠ 10 → gI σ' o k = gI σ o k) ∧ (∀ o k, gR σ' o k = gR σ o k) ∧ (∀ o k, gL σ' o k = gL σ o k) ∧ ∀ j, j < 96 → gI σ' 10 j = v := by
  obtain ⟨σ', ⟨b1, b2, b3, b4⟩, e⟩ := loop_exF (fun n (τ : St) i => f_J7_fill_53178_5 10 n v (nI i) (nI 96) τ) (fun τ => some ((), τ)) 96 (by omega) (fun i τ => (∀ o k, o ≠ 10 → gI τ o k = gI σ o k) ∧ (∀ o k, gR τ o k = gR σ o k) ∧ (∀ o k, gL τ o k = gL σ o k) ∧ ∀ j, j < i → gI τ 10 j = v) (fun n τ hτ => by
    rw [e_J7_fill_53178_5, if_pos (nI_le (Nat.le_refl _) (by omega))]) (fun n τ i hi hτ => by
    obtain ⟨b1, b2, b3, b4⟩ := hτ
    refine ⟨sI τ 10 i v, ?_, fun o k ho => by rw [gI_sI, if_neg (fun q => ho q.1)]; exact b1 o k ho, b2, b3, fun j hj => ?_⟩
    · rw [e_J7_fill_53178_5, if_neg (nI_ge hi (by omega)), show lnX 10 = 96 from rfl, if_pos (inb_nI hi (by omega)), ix_nI (by omega), nI_1]
      rfl
    · rw [gI_sI]
      by_cases c : j = i
      · rw [if_pos ⟨rfl, c⟩]
      · rw [if_neg (fun q => c q.2)]; exact b4 j (by omega)) σ ⟨fun _ _ _ => rfl, fun _ _ => rfl, fun _ _ => rfl, fun j hj => by omega⟩
  refine ⟨σ', ?_, b1, b2, b3, b4⟩
  rw [e_J7_fill_53178]
  exact e
/-- what stands then -/
def RestC (x : St) (L : LD) (nb : Nat) (σ : St) : Prop := gI σ 6 1 = nI (tw2 x 0) ∧ gI σ 6 2 = nI (rivT x L) ∧ gI σ 6 3 = nI nb ∧ (∀ i, i < nb → gI σ 9 i = nI (bS x L i)) ∧ (∀ q, q < 8 → gI σ 7 q = if q < L.np then nI (tw2 x (2 + 54 * q)) else gI x 7 q) ∧ (∀ j, j < 234 → gI σ 8 j = if j / 26 < L.np then nI (tw2 x (4 + 54 * (j / 26) + 2 * (j % 26))) else if j / 26 = 8 then nI (tw2 x (hS L + 2 * (j % 26))) else gI x 8 j) ∧ (∀ j, j < 96 → gI σ 10 j = nI (tw2 x 0)) ∧ gI σ 13 3 = 0 ∧ gI σ 13 4 = 0 ∧ gI σ 19 3 = 0 ∧ gI σ 19 4 = 0 ∧ gI σ 21 4 = 0
theorem rest_X (h : K ld bk L x m) (h0 : RelA n0 x m) (hnb : tb x (hS L + 55) ≤ 30) : ∃ σ', ((f_X3_restore 1 x).bind fun q11 => (f_X1_forget q11.2).bind fun q12 => some ((1 : Int32), q12.2)) = some (1, σ') ∧ RestC x L (tb x (hS L + 55)) σ' ∧ DyX x σ' := by
  obtain ⟨-, hs, hb, hl, hw, hd⟩ := id h
  have h8 := hl.1.1
  have hld := hs.2.1
  have hH : hS L = 2 + 54 * L.np := rfl
  have n2 : f_X3_number 1 0 2 x = some (nI (tw2 x 0), x) := num2_X h0 (fun _ => rfl) (a := 0) (by omega)
  let x1 := sI x 6 1 (nI (tw2 x 0))
  have x1f : ∀ o k, ¬ (o = 6 ∧ k = 1) → gI x1 o k = gI x o k := fun o k e => by show gI (sI x 6 1 _) o k = _; rw [gI_sI, if_neg e]
  -- persons
  obtain ⟨x2, ⟨p1, p2, p3, p4, p5⟩, e2⟩ := loop_exF (fun n (σ : St) i => f_X3_restore_12 1 n (nI i) σ) (fun σ => (f_X3_heapStart σ).bind fun q2 => (f_X3_restoreLetters 1 q2.1 (8 : Int32) q2.2).bind fun q3 => (f_X3_riverStart q3.2).bind fun q4 => (f_X3_number 1 q4.1 (3 : Int32) q4.2).bind fun q5 => ltt (sI q5.2 6 2 q5.1) fun σ6 => (f_X3_number 1 (q4.1 + (3 : Int32)) (1 : Int32) σ6).bind fun q7 => (f_J9_min_7cf53 (30 : Int32) q7.1 q7.2).bind fun q8 => ltt (sI q8.2 6 3 q8.1) fun σ9 => f_X3_restore_111 1 FU q4.1 (0 : Int32) σ9) L.np (by omega) (fun i σ => (∀ o k, o ≠ 7 → o ≠ 8 → gI σ o k = gI x1 o k) ∧ (∀ o k, gR σ o k = gR x o k) ∧ (∀ o k, gL σ o k = gL x o k) ∧ (∀ q, q < 8 → gI σ 7 q = if q < i then nI (tw2 x (2 + 54 * q)) else gI x 7 q) ∧ ∀ j, j < 234 → gI σ 8 j = if j / 26 < i then nI (tw2 x (4 + 54 * (j / 26) + 2 * (j % 26))) else gI x 8 j) (fun n σ hσ => by
    obtain ⟨b1, b2, b3, b4, b5⟩ := hσ
    have gn : gI σ (ld + 1) 4 = nI L.np := by rw [b1 _ _ (by rcases hld with q | q <;> omega) (by rcases hld with q | q <;> omega), x1f _ _ (by rcases hld with q | q <;> omega)]; exact hl.1.2.1
    rw [e_X3_restore_12]
    dsimp only [ltt]
    rw [b2, hs.1, if_pos (landB_of hld), gn, if_pos (nI_le (Nat.le_refl _) (by omega))]) (fun n σ i hi hσ => by
    obtain ⟨b1, b2, b3, b4, b5⟩ := hσ
    have gn : gI σ (ld + 1) 4 = nI L.np := by rw [b1 _ _ (by rcases hld with q | q <;> omega) (by rcases hld with q | q <;> omega), x1f _ _ (by rcases hld with q | q <;> omega)]; exact hl.1.2.1
    have tp : ∀ k, gI σ 1 k = gI x 1 k := fun k => by rw [b1 1 k (by decide) (by decide), x1f 1 k (by omega)]
    obtain ⟨σ1, f1, f2, f3, f4, f5⟩ := rl_X h0 (σ := sI σ 7 i (nI (tw2 x (2 + 54 * i)))) (fun k => by rw [gI_sI, if_neg (by omega)]; exact tp k) (a := 4 + 54 * i) (r := i) (by omega) (by omega)
    refine ⟨σ1, ?_, fun o k o1 o2 => by rw [f2 o k o2, gI_sI, if_neg (fun q => o1 q.1)]; exact b1 o k o1 o2, fun o k => (f3 o k).trans (b2 o k), fun o k => (f4 o k).trans (b3 o k), fun q hq => ?_, fun j hj => ?_⟩
    · rw [e_X3_restore_12]
      dsimp only [ltt]
      rw [b2, hs.1, if_pos (landB_of hld), gn, if_neg (nI_ge hi (by omega)), if_neg (show ¬ (8 : Int32) ≤ nI i from nI_ge (b := 8) (by omega) (by omega)), show (54 : Int32) = nI 54 from rfl, pk_mul, show (2 : Int32) = nI 2 from rfl, nI_add, Nat.mul_comm i 54]
      have nx : f_X3_number 1 (nI (2 + 54 * i)) (nI 2) σ = some (nI (tw2 x (2 + 54 * i)), σ) := num2_X h0 tp (by omega)
      rw [nx]
      dsimp only [Option.bind]
      rw [if_pos (inb_nI (by omega) (by omega)), ix_nI (by omega), nI_add, show 2 + 54 * i + 2 = 4 + 54 * i by omega, f1, nI_1]
    · rw [f2 7 q (by decide), gI_sI]
      by_cases c : q = i
      · rw [if_pos ⟨rfl, c⟩, if_pos (by omega), c]
      · rw [if_neg (fun w => c w.2), b4 q hq]
        by_cases c2 : q < i
        · rw [if_pos c2, if_pos (by omega)]
        · rw [if_neg c2, if_neg (by omega)]
    · rw [f5 j hj]
      by_cases c : j / 26 = i
      · rw [if_pos c, if_pos (by omega), c]
      · rw [if_neg c, gI_sI, if_neg (by omega), b5 j hj]
        by_cases c2 : j / 26 < i
        · rw [if_pos c2, if_pos (by omega)]
        · rw [if_neg c2, if_neg (by omega)]) x1 ⟨fun _ _ _ _ => rfl, fun _ _ => rfl, fun _ _ => rfl, fun q hq => by rw [if_neg (by omega)]; exact x1f 7 q (by omega), fun j hj => by rw [if_neg (by omega)]; exact x1f 8 j (by omega)⟩
  -- the heap, the river, how many bullets
  have tp2 : ∀ k, gI x2 1 k = gI x 1 k := fun k => by rw [p1 1 k (by decide) (by decide), x1f 1 k (by omega)]
  obtain ⟨x3, f1, f2, f3, f4, f5⟩ := rl_X h0 tp2 (a := hS L) (r := 8) (by omega) (by omega)
  have hp : ∀ (σ : St), (∀ o k, gR σ o k = gR x o k) → gI σ (ld + 1) 4 = nI L.np → f_X3_heapStart σ = some (nI (hS L), σ) := fun σ g1 g2 => by
    rw [e_X3_heapStart]
    dsimp only [ltt]
    rw [g1, hs.1, if_pos (landB_of hld), g2, show (2 : Int32) = nI 2 from rfl, show (54 : Int32) = nI 54 from rfl, pk_mul, nI_add, Nat.mul_comm L.np 54]
    rfl
  have gn2 : gI x2 (ld + 1) 4 = nI L.np := by rw [p1 _ _ (by rcases hld with q | q <;> omega) (by rcases hld with q | q <;> omega), x1f _ _ (by rcases hld with q | q <;> omega)]; exact hl.1.2.1
  have gn3 : gI x3 (ld + 1) 4 = nI L.np := by rw [f2 _ _ (by rcases hld with q | q <;> omega)]; exact gn2
  have gr3 : ∀ o k, gR x3 o k = gR x o k := fun o k => (f3 o k).trans (p2 o k)
  have tp3 : ∀ k, gI x3 1 k = gI x 1 k := fun k => by rw [f2 1 k (by decide)]; exact tp2 k
  have rs : f_X3_riverStart x3 = some (nI (hS L + 52), x3) := by
    rw [e_X3_riverStart, hp x3 gr3 gn3]
    dsimp only [Option.bind]
    rw [show (52 : Int32) = nI 52 from rfl, nI_add]
  let x4 := sI x3 6 2 (nI (rivT x L))
  let x5 := sI x4 6 3 (nI (tb x (hS L + 55)))
  have x4f : ∀ o k, ¬ (o = 6 ∧ k = 2) → gI x4 o k = gI x3 o k := fun o k e => by show gI (sI x3 6 2 _) o k = _; rw [gI_sI, if_neg e]
  have x5f : ∀ o k, ¬ (o = 6 ∧ k = 3) → gI x5 o k = gI x4 o k := fun o k e => by show gI (sI x4 6 3 _) o k = _; rw [gI_sI, if_neg e]
  have n3 : f_X3_number 1 (nI (hS L + 52)) 3 x3 = some (nI (rivT x L), x3) := num3_X h0 tp3 (by omega)
  have n4 : f_X3_number 1 (nI (hS L + 55)) 1 x4 = some (nI (tb x (hS L + 55)), x4) := num1_X h0 (fun k => by rw [x4f 1 k (by omega)]; exact tp3 k) (by omega)
  have e63 : gI x5 6 3 = nI (tb x (hS L + 55)) := by show gI (sI x4 6 3 _) 6 3 = _; rw [gI_sI, if_pos ⟨rfl, rfl⟩]
  -- bullets
  obtain ⟨x6, ⟨g1, g2, g3, g4⟩, e6⟩ := loop_exF (fun n (σ : St) i => f_X3_restore_111 1 n (nI (hS L + 52)) (nI i) σ) (fun σ => (f_X2_bearAnew σ).bind fun q1 => some ((), q1.2)) (tb x (hS L + 55)) (by omega) (fun i σ => (∀ o k, o ≠ 9 → gI σ o k = gI x5 o k) ∧ (∀ o k, gR σ o k = gR x o k) ∧ (∀ o k, gL σ o k = gL x o k) ∧ ∀ j, j < i → gI σ 9 j = nI (bS x L j)) (fun n σ hσ => by
    rw [e_X3_restore_111, hσ.1 6 3 (by decide), e63, if_pos (nI_le (Nat.le_refl _) (by omega))]) (fun n σ i hi hσ => by
    obtain ⟨b1, b2, b3, b4⟩ := hσ
    refine ⟨sI σ 9 i (nI (bS x L i)), ?_, fun o k ho => by rw [gI_sI, if_neg (fun q => ho q.1)]; exact b1 o k ho, b2, b3, fun j hj => ?_⟩
    · rw [e_X3_restore_111, b1 6 3 (by decide), e63, if_neg (nI_ge hi (by omega)), show (4 : Int32) = nI 4 from rfl, show (2 : Int32) = nI 2 from rfl, pk_mul, nI_add, nI_add, show hS L + 52 + 4 + 2 * i = hS L + 56 + 2 * i by omega]
      have nx : f_X3_number 1 (nI (hS L + 56 + 2 * i)) (nI 2) σ = some (nI (bS x L i), σ) := num2_X h0 (fun k => by rw [b1 1 k (by decide), x5f 1 k (by omega), x4f 1 k (by omega)]; exact tp3 k) (by omega)
      rw [nx]
      dsimp only [Option.bind]
      rw [if_pos (inb_nI (by omega) (by omega)), ix_nI (by omega), nI_1]
      rfl
    · rw [gI_sI]
      by_cases c : j = i
      · rw [if_pos ⟨rfl, c⟩, c]
      · rw [if_neg (fun q => c q.2)]; exact b4 j (by omega)) x5 ⟨fun _ _ _ => rfl, gr3, fun o k => (f4 o k).trans (p3 o k), fun j hj => by omega⟩
  -- anew
  have y6 : gI x6 6 1 = nI (tw2 x 0) := by
    rw [g1 6 1 (by decide), x5f 6 1 (by decide), x4f 6 1 (by decide), f2 6 1 (by decide), p1 6 1 (by decide) (by decide)]
    show gI (sI x 6 1 _) 6 1 = _
    rw [gI_sI, if_pos ⟨rfl, rfl⟩]
  let x7 := sI (sI x6 13 3 0) 13 4 0
  have x7f : ∀ o k, ¬ (o = 13 ∧ (k = 3 ∨ k = 4)) → gI x7 o k = gI x6 o k := fun o k e => by show gI (sI (sI x6 13 3 0) 13 4 0) o k = _; rw [gI_sI, if_neg (fun q => e ⟨q.1, Or.inr q.2⟩), gI_sI, if_neg (fun q => e ⟨q.1, Or.inl q.2⟩)]
  obtain ⟨x8, k1, k2, k3, k4, k5⟩ := fill_X (nI (tw2 x 0)) x7
  let x9 := sI (sI (sI x8 19 3 0) 19 4 0) 21 4 0
  have x9f : ∀ o k, ¬ (o = 19 ∧ (k = 3 ∨ k = 4)) → ¬ (o = 21 ∧ k = 4) → gI x9 o k = gI x8 o k := fun o k e e' => by
    show gI (sI (sI (sI x8 19 3 0) 19 4 0) 21 4 0) o k = _
    rw [gI_sI, if_neg e', gI_sI, if_neg (fun q => e ⟨q.1, Or.inr q.2⟩), gI_sI, if_neg (fun q => e ⟨q.1, Or.inl q.2⟩)]
  have big : ∀ o k, o ≠ 10 → o ≠ 13 → o ≠ 19 → o ≠ 21 → gI x9 o k = gI x6 o k := fun o k o1 o2 o3 o4 => by rw [x9f o k (fun q => o3 q.1) (fun q => o4 q.1), k2 o k o1, x7f o k (fun q => o2 q.1)]
  have big2 : ∀ o k, o ≠ 6 → o ≠ 9 → o ≠ 10 → o ≠ 13 → o ≠ 19 → o ≠ 21 → gI x9 o k = gI x3 o k := fun o k o1 o2 o3 o4 o5 o6 => by rw [big o k o3 o4 o5 o6, g1 o k o2, x5f o k (fun q => o1 q.1), x4f o k (fun q => o1 q.1)]
  refine ⟨x9, ?_, ⟨?_, ?_, ?_, fun i hi => ?_, fun q hq => ?_, fun j hj => ?_, fun j hj => ?_, ?_, ?_, ?_, ?_, ?_⟩, ?_⟩
  · have er : f_X3_restore 1 x = some ((), x8) := by
      rw [e_X3_restore, n2]
      dsimp only [Option.bind, ltt]
      have e2' : f_X3_restore_12 1 FU 0 x1 = _ := e2
      have e6' : f_X3_restore_111 1 FU (nI (hS L + 52)) 0 x5 = _ := e6
      refine Eq.trans e2' ?_
      rw [hp x2 p2 gn2]
      dsimp only [Option.bind]
      rw [show (8 : Int32) = nI 8 from rfl, f1]
      dsimp only
      rw [rs]
      dsimp only
      rw [n3]
      dsimp only [ltt]
      rw [show (3 : Int32) = nI 3 from rfl, nI_add, show hS L + 52 + 3 = hS L + 55 by omega]
      have n4' : f_X3_number 1 (nI (hS L + 55)) 1 (sI x3 6 2 (nI (rivT x L))) = some (nI (tb x (hS L + 55)), x4) := n4
      rw [n4']
      dsimp only
      rw [show (30 : Int32) = nI 30 from rfl, min_I (by omega) (by omega), show min 30 (tb x (hS L + 55)) = tb x (hS L + 55) by omega]
      dsimp only
      refine Eq.trans e6' ?_
      rw [e_X2_bearAnew, e_X7_clear]
      dsimp only [ltt, Option.bind]
      have v7 : gI (sI (sI x6 13 3 0) 13 4 0) 6 1 = nI (tw2 x 0) := by rw [gI_sI, if_neg (by omega), gI_sI, if_neg (by omega)]; exact y6
      rw [v7]
      have k1' : f_J7_fill_53178 10 (nI (tw2 x 0)) (sI (sI x6 13 3 0) 13 4 0) = some ((), x8) := k1
      rw [k1']
    rw [er]
    dsimp only [Option.bind]
    rw [e_X1_forget, e_X7_clear]
    rfl
  · rw [big 6 1 (by decide) (by decide) (by decide) (by decide)]; exact y6
  · rw [big 6 2 (by decide) (by decide) (by decide) (by decide), g1 6 2 (by decide), x5f 6 2 (by decide)]
    show gI (sI x3 6 2 _) 6 2 = _
    rw [gI_sI, if_pos ⟨rfl, rfl⟩]
  · rw [big 6 3 (by decide) (by decide) (by decide) (by decide), g1 6 3 (by decide)]; exact e63
  · rw [big 9 i (by decide) (by decide) (by decide) (by decide)]; exact g4 i hi
  · rw [big2 7 q (by decide) (by decide) (by decide) (by decide) (by decide) (by decide), f2 7 q (by decide)]; exact p4 q hq
  · rw [big2 8 j (by decide) (by decide) (by decide) (by decide) (by decide) (by decide), f5 j hj, p5 j hj]
    by_cases c : j / 26 = 8
    · rw [if_pos c, if_neg (by omega), if_pos c]
    · rw [if_neg c, if_neg c]
  · rw [x9f 10 j (by omega) (by omega)]; exact k5 j hj
  · rw [x9f 13 3 (by decide) (by decide), k2 13 3 (by decide)]
    show gI (sI (sI x6 13 3 0) 13 4 0) 13 3 = 0
    rw [gI_sI, if_neg (by decide), gI_sI, if_pos ⟨rfl, rfl⟩]
  · rw [x9f 13 4 (by decide) (by decide), k2 13 4 (by decide)]
    show gI (sI (sI x6 13 3 0) 13 4 0) 13 4 = 0
    rw [gI_sI, if_pos ⟨rfl, rfl⟩]
  · show gI (sI (sI (sI x8 19 3 0) 19 4 0) 21 4 0) 19 3 = 0
    rw [gI_sI, if_neg (by decide), gI_sI, if_neg (by decide), gI_sI, if_pos ⟨rfl, rfl⟩]
  · show gI (sI (sI (sI x8 19 3 0) 19 4 0) 21 4 0) 19 4 = 0
    rw [gI_sI, if_neg (by decide), gI_sI, if_pos ⟨rfl, rfl⟩]
  · show gI (sI (sI (sI x8 19 3 0) 19 4 0) 21 4 0) 21 4 = 0
    rw [gI_sI, if_pos ⟨rfl, rfl⟩]
  · refine ⟨fun o k e => ?_, fun o k _ => ?_, ?_⟩
    · have ne : ∀ q, dX q k = true → o ≠ q := fun q hq w => by rw [w, hq] at e; cases e
      have e613 : ¬ (o = 6 ∧ (k = 1 ∨ k = 2 ∨ k = 3)) := fun w => by obtain ⟨w1, w2⟩ := w; subst w1; rcases w2 with rfl | rfl | rfl <;> cases e
      have e13 : ¬ (o = 13 ∧ (k = 3 ∨ k = 4)) := fun w => by obtain ⟨w1, w2⟩ := w; subst w1; rcases w2 with rfl | rfl <;> cases e
      have e19 : ¬ (o = 19 ∧ (k = 3 ∨ k = 4)) := fun w => by obtain ⟨w1, w2⟩ := w; subst w1; rcases w2 with rfl | rfl <;> cases e
      have e21 : ¬ (o = 21 ∧ k = 4) := fun w => by obtain ⟨w1, w2⟩ := w; subst w1; subst w2; cases e
      rw [x9f o k e19 e21, k2 o k (ne 10 rfl), x7f o k e13, g1 o k (ne 9 rfl), x5f o k (fun w => e613 ⟨w.1, Or.inr (Or.inr w.2)⟩), x4f o k (fun w => e613 ⟨w.1, Or.inr (Or.inl w.2)⟩), f2 o k (ne 8 rfl), p1 o k (ne 7 rfl) (ne 8 rfl), x1f o k (fun w => e613 ⟨w.1, Or.inl w.2⟩)]
    · show gR x8 o k = _
      rw [k3]
      exact g2 o k
    · show gL x8 18 4 = _
      rw [k4]
      exact g3 18 4
end RestX
