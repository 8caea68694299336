/-! ===== a land begins to be told; its titles are weighed ===== -/
theorem fillG {r N : Nat} (hr : lnX r = N) (hN : N < 10000) (v : Int32) (σ : St) : ∃ σ', f_J7_fill_53178 r v σ = some ((), σ') ∧ (∀ o k, o ≠ r → gI σ' o k = gI σ o k) ∧ (∀ o k, gR σ' o k = gR σ o k) ∧ (∀ o k, gL σ' o k = gL σ o k) ∧ ∀ j, j < N → gI σ' r j = v := by
  obtain ⟨σ', ⟨b1, b2, b3, b4⟩, e⟩ := loop_exF (fun n (τ : St) i => f_J7_fill_53178_5 r n v (nI i) (nI N) τ) (fun τ => some ((), τ)) N (by omega) (fun i τ => (∀ o k, o ≠ r → gI τ o k = gI σ o k) ∧ (∀ o k, gR τ o k = gR σ o k) ∧ (∀ o k, gL τ o k = gL σ o k) ∧ ∀ j, j < i → gI τ r j = v) (fun n τ hτ => by
    rw [e_J7_fill_53178_5, if_pos (nI_le (Nat.le_refl _) (by omega))]) (fun n τ i hi hτ => by
    obtain ⟨b1, b2, b3, b4⟩ := hτ
    refine ⟨sI τ r i v, ?_, fun o k ho => (ge_n (fun q => ho q.1)).trans (b1 o k ho), b2, b3, fun j hj => ?_⟩
    · rw [e_J7_fill_53178_5, if_neg (nI_ge hi (by omega)), hr, if_pos (inb_nI hi (by omega)), ix_nI (by omega), nI_1]
      rfl
    · by_cases c : j = i
      · subst c; exact ge_s
      · exact (ge_n (fun q => c q.2)).trans (b4 j (by omega))) σ ⟨fun _ _ _ => rfl, fun _ _ => rfl, fun _ _ => rfl, fun j hj => by omega⟩
  refine ⟨σ', ?_, b1, b2, b3, b4⟩
  rw [e_J7_fill_53178, hr]
  exact e
theorem ozS_c {x x' : St} {o b : Nat} (h : ∀ k, gI x' o k = gI x o k) (l : List Nat) : ozS x' o b l = ozS x o b l := by
  induction l with
  | nil => rfl
  | cons c l ih => simp only [ozS, ih, h]
section Bg
variable {t : Nat → Nat} {n p ls ib A B : Nat} {L : LD} {x m : St}
theorem wt_X (hP : RP ls ib L x m A B) : ∃ x', f_X4_weighTitles ls x = some ((), x') ∧ (∀ o k, ¬ (o = ls + 6 ∧ k % 2 = 1) → gI x' o k = gI x o k) ∧ (∀ o k, gR x' o k = gR x o k) ∧ (∀ o k, gL x' o k = gL x o k) ∧ ∀ t, t < L.nt → gI x' (ls + 6) (2 * t + 1) = ozS x (ls + 16) 0 (L.tn t) := by
  have hl := land_o hP.1.1
  obtain ⟨hn, e4, em⟩ := hP.2.2.1.1
  have q := lnS hP.1.1
  obtain ⟨σ', hσ, e⟩ := loop_exF (fun n (τ : St) i => f_X4_weighTitles_2 ls n (nI i) τ) (fun τ => some ((), τ)) L.nt (by omega) (fun i τ => (∀ o k, ¬ (o = ls + 6 ∧ k % 2 = 1) → gI τ o k = gI x o k) ∧ (∀ o k, gR τ o k = gR x o k) ∧ (∀ o k, gL τ o k = gL x o k) ∧ ∀ t, t < i → gI τ (ls + 6) (2 * t + 1) = ozS x (ls + 16) 0 (L.tn t))
    (fun n τ hτ => by rw [e_X4_weighTitles_2, show gI τ (ls + 4) 4 = nI L.nt from (hτ.1 _ _ (by omega)).trans e4, if_pos (nI_le (Nat.le_refl _) (by omega))])
    (fun n τ i hi hτ => by
      obtain ⟨b1, b2, b3, b4⟩ := hτ
      have g4 : gI τ (ls + 4) 4 = nI L.nt := (b1 _ _ (by omega)).trans e4
      have g1 : gI τ (ls + 4) 1 = nI 2 := (b1 _ _ (by omega)).trans (rolls hP).2.1.2
      obtain ⟨⟨n1, n2, n3, n4, n5⟩, -⟩ := hP.2.2.1.2 i hi
      have nm : f_X8_name (ls + 4) (nI i) τ = some (nI (pk5 (L.tn i)), τ) := by
        rw [e_X8_name, holds_X g4 (by omega), inb_nI hi (by omega)]
        dsimp only [Option.bind]
        rw [bT, if_pos (inb_nI (by omega) (by omega)), ix_nI (by omega), show gI τ (ls + 4 + 1) i = nI (pk5 (L.tn i)) from (b1 _ _ (by omega)).trans n4]
      have oz : ozS τ (ls + 16) 0 (L.tn i) = ozS x (ls + 16) 0 (L.tn i) := ozS_c (fun k => b1 _ _ (by omega)) _
      have pu : f_X8_put (ls + 4) (nI i) 1 (ozS x (ls + 16) 0 (L.tn i)) τ = some ((), sI τ (ls + 4 + 2) (i * 2 + 1) (ozS x (ls + 16) 0 (L.tn i))) := put_X (w := 2) (cl := 1) _ g4 g1 hi (by omega) (by omega) (by omega) (by omega) (by omega)
      refine ⟨sI τ (ls + 4 + 2) (i * 2 + 1) (ozS x (ls + 16) 0 (L.tn i)), ?_, fun o k ho => (ge_n (by omega)).trans (b1 o k ho), b2, b3, fun j hj => ?_⟩
      · rw [e_X4_weighTitles_2, g4, if_neg (nI_ge hi (by omega)), nm]
        dsimp only [Option.bind]
        rw [nameOz_X n3 n2]
        dsimp only
        rw [oz, pu]
        dsimp only
        rw [nI_1]
      · by_cases c : j = i
        · subst c; rw [show 2 * j + 1 = j * 2 + 1 by omega]; exact ge_s
        · exact (ge_n (by omega)).trans (b4 j (by omega))) x ⟨fun _ _ _ => rfl, fun _ _ => rfl, fun _ _ => rfl, fun j hj => by omega⟩
  refine ⟨σ', ?_, hσ⟩
  rw [e_X4_weighTitles]
  exact e
theorem clear_X (hls : isLand ls) (σ : St) : ∃ σ', f_X4_clear ls σ = some ((), σ') ∧ (∀ o k, ¬ (o = ls ∧ (k = 9 ∨ k = 10)) → ¬ ((o = ls + 1 ∨ o = ls + 4 ∨ o = ls + 7 ∨ o = ls + 10 ∨ o = ls + 13) ∧ k = 4) → o ≠ ls + 16 → o ≠ ls + 17 → o ≠ ls + 18 → gI σ' o k = gI σ o k) ∧ (∀ o k, gR σ' o k = gR σ o k) ∧ (∀ o k, gL σ' o k = gL σ o k) ∧ (gI σ' (ls + 1) 4 = 0 ∧ gI σ' (ls + 4) 4 = 0 ∧ gI σ' (ls + 7) 4 = 0 ∧ gI σ' (ls + 10) 4 = 0 ∧ gI σ' (ls + 13) 4 = 0) ∧ (∀ j, j < 26 → gI σ' (ls + 16) j = 10) ∧ (∀ j, j < 26 → gI σ' (ls + 17) j = 0) ∧ (∀ j, j < 8 → gI σ' (ls + 18) j = 0) ∧ gI σ' ls 9 = 0 ∧ gI σ' ls 10 = 0 := by
  have hl := land_o hls
  have l1 : lnX (ls + 16) = 26 := by rcases hl with rfl | rfl <;> rfl
  have l2 : lnX (ls + 17) = 26 := by rcases hl with rfl | rfl <;> rfl
  have l3 : lnX (ls + 18) = 8 := by rcases hl with rfl | rfl <;> rfl
  obtain ⟨τ, hτ⟩ : ∃ τ, τ = sI (sI (sI (sI (sI σ (ls + 1) 4 0) (ls + 4) 4 0) (ls + 7) 4 0) (ls + 10) 4 0) (ls + 13) 4 0 := ⟨_, rfl⟩
  obtain ⟨τ1, f1, f2, f3, f4, f5⟩ := fillG l1 (by omega) 10 τ
  obtain ⟨τ2, g1, g2, g3, g4, g5⟩ := fillG l2 (by omega) 0 τ1
  obtain ⟨τ3, h1, h2, h3, h4, h5⟩ := fillG l3 (by omega) 0 τ2
  have k3 : ∀ o k, o ≠ ls + 16 → o ≠ ls + 17 → o ≠ ls + 18 → gI τ3 o k = gI τ o k := fun o k e1 e2 e3 => (h2 o k e3).trans ((g2 o k e2).trans (f2 o k e1))
  have k4 : ∀ o k, ¬ (o = ls ∧ (k = 9 ∨ k = 10)) → gI (sI (sI τ3 ls 9 0) ls 10 0) o k = gI τ3 o k := fun o k e => (ge_n (by omega)).trans (ge_n (by omega))
  refine ⟨sI (sI τ3 ls 9 0) ls 10 0, ?_, fun o k e1 e2 e3 e4 e5 => (k4 o k e1).trans ((k3 o k e3 e4 e5).trans ?_), fun o k => ?_, fun o k => ?_, ⟨?_, ?_, ?_, ?_, ?_⟩, fun j hj => ?_, fun j hj => ?_, fun j hj => ?_, ?_, ge_s⟩
  · rw [e_X4_clear]
    dsimp only [ltt]
    rw [← hτ, f1]
    dsimp only [Option.bind]
    rw [g1]
    dsimp only
    rw [h1]
  · rw [hτ]
    exact (ge_n (by omega)).trans ((ge_n (by omega)).trans ((ge_n (by omega)).trans ((ge_n (by omega)).trans (ge_n (by omega)))))
  · exact (h3 o k).trans ((g3 o k).trans ((f3 o k).trans (by rw [hτ]; rfl)))
  · exact (h4 o k).trans ((g4 o k).trans ((f4 o k).trans (by rw [hτ]; rfl)))
  · rw [k4 _ _ (by omega), k3 _ _ (by omega) (by omega) (by omega), hτ]
    exact (ge_n (by omega)).trans ((ge_n (by omega)).trans ((ge_n (by omega)).trans ((ge_n (by omega)).trans ge_s)))
  · rw [k4 _ _ (by omega), k3 _ _ (by omega) (by omega) (by omega), hτ]
    exact (ge_n (by omega)).trans ((ge_n (by omega)).trans ((ge_n (by omega)).trans ge_s))
  · rw [k4 _ _ (by omega), k3 _ _ (by omega) (by omega) (by omega), hτ]
    exact (ge_n (by omega)).trans ((ge_n (by omega)).trans ge_s)
  · rw [k4 _ _ (by omega), k3 _ _ (by omega) (by omega) (by omega), hτ]
    exact (ge_n (by omega)).trans ge_s
  · rw [k4 _ _ (by omega), k3 _ _ (by omega) (by omega) (by omega), hτ]
    exact ge_s
  · rw [k4 _ _ (by omega), h2 _ _ (by omega), g2 _ _ (by omega)]; exact f5 j hj
  · rw [k4 _ _ (by omega), h2 _ _ (by omega)]; exact g5 j hj
  · rw [k4 _ _ (by omega)]; exact h5 j hj
  · exact (ge_n (by omega)).trans ge_s
abbrev fnM (ib : Nat) (τ : St) : St := sI (sI (sI (sI (sI (sI (sI τ 3 ib 0) 9 ib 0) 13 ib 0) 16 ib 0) 20 ib 0) 23 ib 0) 0 37 0
abbrev bgM (n ib : Nat) (m : St) : St := sI (sI (sI (sI (sI (sI m 0 2 (nI n)) 0 1 0) 0 5 0) 0 8 0) 0 9 (-1)) 0 38 (nI ib)
theorem beg_M {bk : Nat} (hb : RBk bk m) (e1 : gI m 0 1 = nI n) (hib : ib + bk = 1) : ∃ τ, f_X11_land m = ((f_X11_ahead (fnM ib τ)).bind fun q8 => f_X11_land_154 FU (0 : Int32) q8.2) ∧ (∀ o k, ¬ ((o = 2 ∨ o = 12) ∧ 26 * ib ≤ k ∧ k < 26 * ib + 26) → gI τ o k = gI (bgM n ib m) o k) ∧ (∀ o k, gL τ o k = gL m o k) ∧ ∀ j, j < 26 → gI τ 2 (26 * ib + j) = 10 ∧ gI τ 12 (26 * ib + j) = 0 := by
  have e12 : gI (sI (sI (sI (sI (sI m 0 2 (nI n)) 0 1 0) 0 5 0) 0 8 0) 0 9 (-1)) 0 12 = nI bk := (ge_n (by omega)).trans ((ge_n (by omega)).trans ((ge_n (by omega)).trans ((ge_n (by omega)).trans ((ge_n (by omega)).trans hb.2))))
  have eib : (1 : Int32) - nI bk = nI ib := by
    rcases (by omega : bk = 0 ∨ bk = 1) with rfl | rfl
    · rw [show ib = 1 by omega]; rfl
    · rw [show ib = 0 by omega]; rfl
  have e38 : gI (bgM n ib m) 0 38 = nI ib := ge_s
  obtain ⟨τ, hτ, e⟩ := loop_exF (fun n' (τ : St) i => f_X11_land_40 n' (nI i) τ) (fun τ => (f_X11_ahead (fnM ib τ)).bind fun q8 => f_X11_land_154 FU (0 : Int32) q8.2) 26 (by omega) (fun i τ => (∀ o k, ¬ ((o = 2 ∨ o = 12) ∧ 26 * ib ≤ k ∧ k < 26 * ib + 26) → gI τ o k = gI (bgM n ib m) o k) ∧ (∀ o k, gL τ o k = gL m o k) ∧ ∀ j, j < i → gI τ 2 (26 * ib + j) = 10 ∧ gI τ 12 (26 * ib + j) = 0)
    (fun n' τ hτ => by
      have g : ∀ k, gI τ 0 k = gI (bgM n ib m) 0 k := fun k => hτ.1 _ _ (by omega)
      have g0 : gI τ 0 38 = nI ib := (g 38).trans e38
      rw [e_X11_land_40, if_pos (by decide), g0, if_pos (bk_ix (by omega)).1, (bk_ix (show ib < 2 by omega)).2]
      dsimp only [ltt]
      rw [show gI (sI τ 3 ib 0) 0 38 = nI ib from (ge_n (by omega)).trans g0, if_pos (bk_ix (by omega)).1, (bk_ix (show ib < 2 by omega)).2,
        show gI (sI (sI τ 3 ib 0) 9 ib 0) 0 38 = nI ib from (ge_n (by omega)).trans ((ge_n (by omega)).trans g0), if_pos (bk_ix (by omega)).1, (bk_ix (show ib < 2 by omega)).2,
        show gI (sI (sI (sI τ 3 ib 0) 9 ib 0) 13 ib 0) 0 38 = nI ib from (ge_n (by omega)).trans ((ge_n (by omega)).trans ((ge_n (by omega)).trans g0)), if_pos (bk_ix (by omega)).1, (bk_ix (show ib < 2 by omega)).2,
        show gI (sI (sI (sI (sI τ 3 ib 0) 9 ib 0) 13 ib 0) 16 ib 0) 0 38 = nI ib from (ge_n (by omega)).trans ((ge_n (by omega)).trans ((ge_n (by omega)).trans ((ge_n (by omega)).trans g0))), if_pos (bk_ix (by omega)).1, (bk_ix (show ib < 2 by omega)).2,
        show gI (sI (sI (sI (sI (sI τ 3 ib 0) 9 ib 0) 13 ib 0) 16 ib 0) 20 ib 0) 0 38 = nI ib from (ge_n (by omega)).trans ((ge_n (by omega)).trans ((ge_n (by omega)).trans ((ge_n (by omega)).trans ((ge_n (by omega)).trans g0)))), if_pos (bk_ix (by omega)).1, (bk_ix (show ib < 2 by omega)).2])
    (fun n' τ i hi hτ => by
      obtain ⟨b1, b3, b4⟩ := hτ
      have g0 : gI τ 0 38 = nI ib := (b1 _ _ (by omega)).trans e38
      have w2 : (26 : Int32) * nI ib + nI i = nI (26 * ib + i) := by rw [show (26 : Int32) = nI 26 from rfl, pk_mul, nI_add]
      refine ⟨sI (sI τ 2 (26 * ib + i) 10) 12 (26 * ib + i) 0, ?_, fun o k ho => (ge_n (by omega)).trans ((ge_n (by omega)).trans (b1 o k ho)), b3, fun j hj => ?_⟩
      · rw [e_X11_land_40, if_neg (show ¬ (26 : Int32) ≤ nI i from nI_ge (b := 26) hi (by omega)), g0, w2, if_pos (inb_nI (by omega) (by omega)), ix_nI (by omega)]
        dsimp only [ltt]
        rw [show gI (sI τ 2 (26 * ib + i) 10) 0 38 = nI ib from (ge_n (by omega)).trans g0, w2, if_pos (inb_nI (by omega) (by omega)), ix_nI (by omega), nI_1]
      · by_cases c : j = i
        · subst c; exact ⟨(ge_n (by omega)).trans ge_s, ge_s⟩
        · exact ⟨(ge_n (by omega)).trans ((ge_n (by omega)).trans (b4 j (by omega)).1), (ge_n (by omega)).trans ((ge_n (by omega)).trans (b4 j (by omega)).2)⟩) (bgM n ib m) ⟨fun _ _ _ => rfl, fun _ _ => rfl, fun j hj => by omega⟩
  refine ⟨τ, ?_, hτ⟩
  rw [e_X11_land]
  dsimp only [ltt]
  rw [e1, e12, eib]
  exact e
end Bg
