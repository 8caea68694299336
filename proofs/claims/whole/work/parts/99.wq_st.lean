/-! ===== statements: person, title, bridge ===== -/
noncomputable abbrev tokX (w : Int32) (F : St → Option (Int32 × St)) : St → Option (Int32 × St) := fun x => (f_X5_token w x).bind fun q => if q.1 = 0 then some ((0 : Int32), q.2) else F q.2
noncomputable abbrev numX (lo hi : Int32) (F : St → Option (Int32 × St)) : St → Option (Int32 × St) := fun x => (f_X5_number lo hi x).bind fun q => if q.1 = 0 then some ((0 : Int32), q.2) else F q.2
noncomputable abbrev kpX (r : Nat) (cl : Int32) (F : St → Option (Int32 × St)) : St → Option (Int32 × St) := fun σ => ltt (gR σ 5 1) fun g => if landB g = true then ((f_X5_keep (g + r) cl σ).bind fun q => if q.1 = 0 then some ((0 : Int32), q.2) else F q.2) else none
abbrev oneX : St → Option (Int32 × St) := fun σ => some ((1 : Int32), σ)
noncomputable abbrev mstM (a : Int64) (G : St → Option (Unit × St)) : St → Option (Unit × St) := fun m => (f_X11_must_ a m).bind fun q => G q.2
noncomputable abbrev numM (lo hi : Int32) (G : Int32 → St → Option (Unit × St)) : St → Option (Unit × St) := fun m => (f_X11_number lo hi m).bind fun q => G q.1 q.2
abbrev putM (w2 : Int32) (N o : Nat) (G : St → Option (Unit × St)) : Int32 → St → Option (Unit × St) := fun v σ => if inb w2 N = true then (ltt (sI σ o (ix w2) v) G) else none
abbrev incM (o : Nat) : St → Option (Unit × St) := fun σ => if gI σ 0 8 = 0 then (ltt (gI σ 0 38) fun w15 => if inb w15 2 = true then (if inb w15 2 = true then (ltt (sI σ o (ix w15) ((gI σ o (ix w15)) + (1 : Int32))) fun σ16 => some ((), σ16)) else none) else none) else (some ((), σ))
section Ps
variable {t : Nat → Nat} {n p0 p ls ib : Nat} {x0 m0 Xp Mp x m : St}
theorem DC.put {G : St → Option (Unit × St)} {w2 v : Int32} {N o j : Nat} (h : DC ls ib G) (hw : inb w2 N = true) (hj : ix w2 = j) (ho : o ≠ 0 ∧ o ≠ 1) (hr : wd o * ib ≤ j ∧ j < wd o * ib + wd o) : DC ls ib (putM w2 N o G v) := by
  intro x σ hd
  obtain ⟨σ', e1, e2⟩ := (h.si (v := v) ho hr) x σ hd
  refine ⟨σ', ?_, e2⟩
  show (if inb w2 N = true then _ else _) = _
  rw [if_pos hw, hj]; exact e1
theorem kpStep {F : St → Option (Int32 × St)} {G : St → Option (Unit × St)} {r s w cl v : Nat} (hA : AL t n p0 p Xp Mp x m) (hl : isLand ls) (hR : gR Xp 5 1 = ls) (e4 : gI Xp (ls + r) 4 = nI (s + 1)) (e1 : gI Xp (ls + r) 1 = nI w) (hcl : cl < w) (hw : w < 10) (hs : s < 100) (hln : s * w + cl < lnX (ls + r + 2)) (hln' : lnX (ls + r + 2) < 1000) (hr : r + 2 < 20) (hv : gI x 5 2 = nI v) (hk : AL t n p0 p (sI Xp (ls + r + 2) (s * w + cl) (nI v)) Mp (sI x (ls + r + 2) (s * w + cl) (nI v)) m → Gl t n p0 ls ib x0 m0 F G (sI x (ls + r + 2) (s * w + cl) (nI v)) m) : Gl t n p0 ls ib x0 m0 (kpX r (nI cl) F) G x m := by
  obtain ⟨h1, h2, h3, h4⟩ := hA
  have hls := land_o hl
  obtain ⟨b, x', m', g1, g2, g3⟩ := hk ⟨h1, h2.c (S3.s (by omega)) (S0.rf _), h3.w (by omega), h4⟩
  refine ⟨b, x', m', ?_, g2, g3⟩
  show (if landB (gR x 5 1) = true then _ else _) = _
  rw [show gR x 5 1 = ls from (h3.2.1 5 1).trans hR, if_pos (landB_of hl), keep_X ((h3.1 _ _ (by omega) (by omega)).trans e4) ((h3.1 _ _ (by omega) (by omega)).trans e1) hcl hw hs hln hln', hv]
  exact g1
theorem putStep {F : St → Option (Int32 × St)} {G : St → Option (Unit × St)} {w2 v : Int32} {N o j : Nat} (hA : AL t n p0 p Xp Mp x m) (hw : inb w2 N = true) (hj : ix w2 = j) (ho : o ≠ 0 ∧ o ≠ 1) (hk : AL t n p0 p Xp (sI Mp o j v) x (sI m o j v) → Gl t n p0 ls ib x0 m0 F G x (sI m o j v)) : Gl t n p0 ls ib x0 m0 F (putM w2 N o G v) x m := by
  obtain ⟨h1, h2, h3, h4⟩ := hA
  obtain ⟨b, x', m', g1, g2, g3⟩ := hk ⟨h1, h2.c (S3.rf _) (S0.s (by omega)), h3, h4.w (by omega)⟩
  refine ⟨b, x', m', g1, ?_, g3⟩
  show (if inb w2 N = true then _ else _) = _
  rw [if_pos hw, hj]; exact g2
/-- the last step: one more there -/
theorem incStep {L' : LD} {A B o s : Nat} (hA : AL t n p0 p Xp Mp x m) (hib : ib < 2) (h38 : gI Mp 0 38 = nI ib) (ho : gI Mp o ib = nI s) (hoo : o ≠ 0 ∧ o ≠ 1) (hwd : wd o = 1) (hFL : FL ls ib x0 m0 Xp Mp) (hAp : A ≤ p0) (hBp : B ≤ p0) (hRP : RP ls ib L' Xp (sI Mp o ib (nI (s + 1))) A B) : Gl t n p0 ls ib x0 m0 oneX (incM o) x m := by
  obtain ⟨h1, h2, h3, h4⟩ := hA
  have e38 : gI m 0 38 = nI ib := (h4.1 0 38 (by omega)).trans h38
  have eo : gI m o ib = nI s := (h4.1 o ib (by omega)).trans ho
  by_cases h0 : gI m 0 8 = 0
  · refine ⟨true, x, sI m o ib (nI (s + 1)), rfl, ?_, (hFL.tr (FL.t h3 h4)).tr (FL.sm (.inr (by rw [hwd]; omega))), .inl ⟨rfl, p, h1, h2.c (S3.rf _) (S0.s (by omega)), fun _ => ⟨L', A, B, by omega, by omega, hRP.t h3 (h4.w (by omega))⟩⟩⟩
    show (if gI m 0 8 = 0 then _ else _) = _
    rw [if_pos h0]
    dsimp only [ltt]
    rw [e38, (bk_ix hib).2, if_pos (bk_ix hib).1, if_pos (bk_ix hib).1, eo, nI_1]
  · refine ⟨true, x, m, rfl, ?_, hFL.tr (FL.t h3 h4), .inl ⟨rfl, p, h1, h2, fun z => absurd z h0⟩⟩
    show (if gI m 0 8 = 0 then _ else _) = _
    rw [if_neg h0]
end Ps
section Pp
variable {t : Nat → Nat} {n p ls ib A B : Nat} {L : LD} {x m : St}
theorem RP.ttl (h : RP ls ib L x m A B) (hn : L.nt < 12) {l : List Nat} (hN : NameR (nI (pk5 l)) (lN (pk8 l)) l) {v : Nat} (hv : v ≤ 999) : RP ls ib ((L.np, L.nt + 1, L.na, L.nl, L.nb), L.pn, fun i => if i = L.nt then l else L.tn i, L.bn) (sI (sI (sI x (ls + 4 + 1) L.nt (nI (pk5 l))) (ls + 4) 4 (nI (L.nt + 1))) (ls + 4 + 2) (L.nt * 2 + 0) (nI v)) (sI (sI (sL m 10 (12 * ib + L.nt) (lN (pk8 l))) 11 (12 * ib + L.nt) (nI v)) 9 ib (nI (L.nt + 1))) A B := by
  obtain ⟨h0, h1, h2, h3, h4, h5, h6, h7, h8, h9⟩ := h
  have hl := land_o h0.1
  have gx : ∀ o k, ¬ (o = ls + 4 ∧ k = 4) → o ≠ ls + 5 → o ≠ ls + 6 → gI (sI (sI (sI x (ls + 4 + 1) L.nt (nI (pk5 l))) (ls + 4) 4 (nI (L.nt + 1))) (ls + 4 + 2) (L.nt * 2 + 0) (nI v)) o k = gI x o k := fun o k z1 z2 z3 => (ge_n (by omega)).trans ((ge_n (by omega)).trans (ge_n (by omega)))
  have gm : ∀ o k, o ≠ 9 → o ≠ 11 → gI (sI (sI (sL m 10 (12 * ib + L.nt) (lN (pk8 l))) 11 (12 * ib + L.nt) (nI v)) 9 ib (nI (L.nt + 1))) o k = gI m o k := fun o k z1 z2 => (ge_n (by omega)).trans (ge_n (by omega))
  have gl : ∀ o k, ¬ (o = 10 ∧ k = 12 * ib + L.nt) → gL (sI (sI (sL m 10 (12 * ib + L.nt) (lN (pk8 l))) 11 (12 * ib + L.nt) (nI v)) 9 ib (nI (L.nt + 1))) o k = gL m o k := fun o k z => by show gL (sL m 10 _ _) o k = _; rw [gL_sL, if_neg z]
  refine ⟨h0.c rfl (gm _ _ (by omega) (by omega)) (fun r j hr hj => gx _ _ (by omega) (by have := roll_o hr; omega) (by have := roll_o hr; omega)), h1.c ⟨rfl, rfl⟩ (fun o k _ _ => gx _ _ (by omega) (by omega) (by omega)) (fun o k _ => gm _ _ (by omega) (by omega)) (fun k => gl _ _ (by omega)), ?_, h3.c rfl (fun o k _ _ => gx _ _ (by omega) (by omega) (by omega)) (fun o k _ => gm _ _ (by omega) (by omega)), h4.c ⟨rfl, rfl⟩ (fun o k _ _ => gx _ _ (by omega) (by omega) (by omega)) (fun o k _ => gm _ _ (by omega) (by omega)) (fun k => gl _ _ (by omega)), h5.c (fun k => gx _ _ (by omega) (by omega) (by omega)) (fun k => gm _ _ (by omega) (by omega)), h6.c (fun k => gx _ _ (by omega) (by omega) (by omega)) (fun k => gm _ _ (by omega) (by omega)), ?_, h8.c (gx _ _ (by omega) (by omega) (by omega)) (gm _ _ (by omega) (by omega)), h9.c rfl (fun o k _ => gx _ _ (by omega) (by omega) (by omega)) (fun o k _ => gm _ _ (by omega) (by omega))⟩
  · refine ⟨⟨by show L.nt + 1 ≤ 12; omega, (ge_n (by omega)).trans ge_s, ge_s⟩, fun i hi => ?_⟩
    have hi' : i < L.nt + 1 := hi
    show NameR _ _ (if i = L.nt then l else L.tn i) ∧ _
    by_cases c : i = L.nt
    · subst c
      rw [if_pos rfl]
      refine ⟨⟨hN.1, hN.2.1, hN.2.2.1, ?_, ?_⟩, ⟨v, hv, ?_, ?_⟩⟩
      · exact (ge_n (by omega)).trans ((ge_n (by omega)).trans ge_s)
      · show gL (sL m 10 _ _) 10 _ = _; rw [gL_sL, if_pos ⟨rfl, rfl⟩]
      · rw [show 2 * L.nt = L.nt * 2 + 0 by omega]; exact ge_s
      · exact (ge_n (by omega)).trans ge_s
    · rw [if_neg c]
      have e1 : gI (sI (sI (sI x (ls + 4 + 1) L.nt (nI (pk5 l))) (ls + 4) 4 (nI (L.nt + 1))) (ls + 4 + 2) (L.nt * 2 + 0) (nI v)) (ls + 5) i = gI x (ls + 5) i := (ge_n (by omega)).trans ((ge_n (by omega)).trans (ge_n (by omega)))
      have e2 : gI (sI (sI (sI x (ls + 4 + 1) L.nt (nI (pk5 l))) (ls + 4) 4 (nI (L.nt + 1))) (ls + 4 + 2) (L.nt * 2 + 0) (nI v)) (ls + 6) (2 * i) = gI x (ls + 6) (2 * i) := (ge_n (by omega)).trans ((ge_n (by omega)).trans (ge_n (by omega)))
      have e3 : gI (sI (sI (sL m 10 (12 * ib + L.nt) (lN (pk8 l))) 11 (12 * ib + L.nt) (nI v)) 9 ib (nI (L.nt + 1))) 11 (12 * ib + i) = gI m 11 (12 * ib + i) := (ge_n (by omega)).trans (ge_n (by omega))
      rw [e1, e2, e3, gl _ _ (by omega)]
      exact h2.2 i (by omega)
  · refine ⟨fun p hp => ?_, fun p hp1 hp2 => (gx _ _ (by omega) (by omega) (by omega)).trans (h7.2 p hp1 hp2)⟩
    obtain ⟨c, c1, c2, c3⟩ := h7.1 p hp
    exact ⟨c, Nat.lt_of_lt_of_le c1 (Nat.pow_le_pow_right (by omega) (Nat.le_succ _)), (gx _ _ (by omega) (by omega) (by omega)).trans c2, (gm _ _ (by omega) (by omega)).trans c3⟩
theorem RP.brd (h : RP ls ib L x m A B) (hn : L.nb < 4) {l : List Nat} (hN : NameR (nI (pk5 l)) (lN (pk8 l)) l) {v : Nat} (hv : v ≤ 9999) : RP ls ib ((L.np, L.nt, L.na, L.nl, L.nb + 1), L.pn, L.tn, fun i => if i = L.nb then l else L.bn i) (sI (sI (sI x (ls + 13 + 1) L.nb (nI (pk5 l))) (ls + 13) 4 (nI (L.nb + 1))) (ls + 13 + 2) (L.nb * 1 + 0) (nI v)) (sI (sI (sL m 21 (4 * ib + L.nb) (lN (pk8 l))) 22 (4 * ib + L.nb) (nI v)) 20 ib (nI (L.nb + 1))) A B := by
  obtain ⟨h0, h1, h2, h3, h4, h5, h6, h7, h8, h9⟩ := h
  have hl := land_o h0.1
  have gx : ∀ o k, ¬ (o = ls + 13 ∧ k = 4) → o ≠ ls + 14 → o ≠ ls + 15 → gI (sI (sI (sI x (ls + 13 + 1) L.nb (nI (pk5 l))) (ls + 13) 4 (nI (L.nb + 1))) (ls + 13 + 2) (L.nb * 1 + 0) (nI v)) o k = gI x o k := fun o k z1 z2 z3 => (ge_n (by omega)).trans ((ge_n (by omega)).trans (ge_n (by omega)))
  have gm : ∀ o k, o ≠ 20 → o ≠ 22 → gI (sI (sI (sL m 21 (4 * ib + L.nb) (lN (pk8 l))) 22 (4 * ib + L.nb) (nI v)) 20 ib (nI (L.nb + 1))) o k = gI m o k := fun o k z1 z2 => (ge_n (by omega)).trans (ge_n (by omega))
  have gl : ∀ o k, ¬ (o = 21 ∧ k = 4 * ib + L.nb) → gL (sI (sI (sL m 21 (4 * ib + L.nb) (lN (pk8 l))) 22 (4 * ib + L.nb) (nI v)) 20 ib (nI (L.nb + 1))) o k = gL m o k := fun o k z => by show gL (sL m 21 _ _) o k = _; rw [gL_sL, if_neg z]
  refine ⟨h0.c rfl (gm _ _ (by omega) (by omega)) (fun r j hr hj => gx _ _ (by omega) (by have := roll_o hr; omega) (by have := roll_o hr; omega)), h1.c ⟨rfl, rfl⟩ (fun o k _ _ => gx _ _ (by omega) (by omega) (by omega)) (fun o k _ => gm _ _ (by omega) (by omega)) (fun k => gl _ _ (by omega)), h2.c ⟨rfl, rfl⟩ (fun o k _ _ => gx _ _ (by omega) (by omega) (by omega)) (fun o k _ => gm _ _ (by omega) (by omega)) (fun k => gl _ _ (by omega)), h3.c rfl (fun o k _ _ => gx _ _ (by omega) (by omega) (by omega)) (fun o k _ => gm _ _ (by omega) (by omega)), ?_, h5.c (fun k => gx _ _ (by omega) (by omega) (by omega)) (fun k => gm _ _ (by omega) (by omega)), h6.c (fun k => gx _ _ (by omega) (by omega) (by omega)) (fun k => gm _ _ (by omega) (by omega)), h7.c ⟨rfl, rfl⟩ (fun k => gx _ _ (by omega) (by omega) (by omega)) (fun k => gm _ _ (by omega) (by omega)), h8.c (gx _ _ (by omega) (by omega) (by omega)) (gm _ _ (by omega) (by omega)), h9.c rfl (fun o k _ => gx _ _ (by omega) (by omega) (by omega)) (fun o k _ => gm _ _ (by omega) (by omega))⟩
  refine ⟨⟨by show L.nb + 1 ≤ 4; omega, (ge_n (by omega)).trans ge_s, ge_s⟩, fun i hi => ?_⟩
  have hi' : i < L.nb + 1 := hi
  show NameR _ _ (if i = L.nb then l else L.bn i) ∧ _
  by_cases c : i = L.nb
  · subst c
    rw [if_pos rfl]
    refine ⟨⟨hN.1, hN.2.1, hN.2.2.1, ?_, ?_⟩, ⟨v, hv, ?_, ?_⟩⟩
    · exact (ge_n (by omega)).trans ((ge_n (by omega)).trans ge_s)
    · show gL (sL m 21 _ _) 21 _ = _; rw [gL_sL, if_pos ⟨rfl, rfl⟩]
    · have : gI (sI (sI (sI x (ls + 13 + 1) L.nb (nI (pk5 l))) (ls + 13) 4 (nI (L.nb + 1))) (ls + 13 + 2) (L.nb * 1 + 0) (nI v)) (ls + 15) (L.nb * 1 + 0) = nI v := ge_s
      rw [show L.nb * 1 + 0 = L.nb by omega] at this ⊢; exact this
    · exact (ge_n (by omega)).trans ge_s
  · rw [if_neg c]
    have e1 : gI (sI (sI (sI x (ls + 13 + 1) L.nb (nI (pk5 l))) (ls + 13) 4 (nI (L.nb + 1))) (ls + 13 + 2) (L.nb * 1 + 0) (nI v)) (ls + 14) i = gI x (ls + 14) i := (ge_n (by omega)).trans ((ge_n (by omega)).trans (ge_n (by omega)))
    have e2 : gI (sI (sI (sI x (ls + 13 + 1) L.nb (nI (pk5 l))) (ls + 13) 4 (nI (L.nb + 1))) (ls + 13 + 2) (L.nb * 1 + 0) (nI v)) (ls + 15) i = gI x (ls + 15) i := (ge_n (by omega)).trans ((ge_n (by omega)).trans (ge_n (by omega)))
    have e3 : gI (sI (sI (sL m 21 (4 * ib + L.nb) (lN (pk8 l))) 22 (4 * ib + L.nb) (nI v)) 20 ib (nI (L.nb + 1))) 22 (4 * ib + i) = gI m 22 (4 * ib + i) := (ge_n (by omega)).trans (ge_n (by omega))
    rw [e1, e2, e3, gl _ _ (by omega)]
    exact h4.2 i (by omega)
theorem RP.prs (h : RP ls ib L x m A B) (hn : L.np < 8) {l : List Nat} (hN : NameR (nI (pk5 l)) (lN (pk8 l)) l) {v1 v2 v3 : Nat} (hv1 : v1 ≤ 99) (hv2 : v2 ≤ 999) (hv3 : v3 ≤ 100) : RP ls ib ((L.np + 1, L.nt, L.na, L.nl, L.nb), fun i => if i = L.np then l else L.pn i, L.tn, L.bn) (sI (sI (sI (sI (sI x (ls + 1 + 1) L.np (nI (pk5 l))) (ls + 1) 4 (nI (L.np + 1))) (ls + 1 + 2) (L.np * 3 + 0) (nI v1)) (ls + 1 + 2) (L.np * 3 + 1) (nI v2)) (ls + 1 + 2) (L.np * 3 + 2) (nI v3)) (sI (sI (sI (sI (sI (sL m 4 (8 * ib + L.np) (lN (pk8 l))) 5 (8 * ib + L.np) (nI v1)) 6 (8 * ib + L.np) (nI v2)) 7 (8 * ib + L.np) (nI v3)) 8 (8 * ib + L.np) 0) 3 ib (nI (L.np + 1))) A B := by
  obtain ⟨h0, h1, h2, h3, h4, h5, h6, h7, h8, h9⟩ := h
  have hl := land_o h0.1
  obtain ⟨X, hX⟩ : ∃ X, X = sI (sI (sI (sI (sI x (ls + 1 + 1) L.np (nI (pk5 l))) (ls + 1) 4 (nI (L.np + 1))) (ls + 1 + 2) (L.np * 3 + 0) (nI v1)) (ls + 1 + 2) (L.np * 3 + 1) (nI v2)) (ls + 1 + 2) (L.np * 3 + 2) (nI v3) := ⟨_, rfl⟩
  obtain ⟨M, hM⟩ : ∃ M, M = sI (sI (sI (sI (sI (sL m 4 (8 * ib + L.np) (lN (pk8 l))) 5 (8 * ib + L.np) (nI v1)) 6 (8 * ib + L.np) (nI v2)) 7 (8 * ib + L.np) (nI v3)) 8 (8 * ib + L.np) 0) 3 ib (nI (L.np + 1)) := ⟨_, rfl⟩
  rw [← hX, ← hM]
  have gx : ∀ o k, ¬ (o = ls + 1 ∧ k = 4) → ¬ (o = ls + 2 ∧ k = L.np) → ¬ (o = ls + 3 ∧ L.np * 3 ≤ k ∧ k < L.np * 3 + 3) → gI X o k = gI x o k := fun o k z1 z2 z3 => by rw [hX]; exact (ge_n (by omega)).trans ((ge_n (by omega)).trans ((ge_n (by omega)).trans ((ge_n (by omega)).trans (ge_n (by omega)))))
  have gm : ∀ o k, o ≠ 3 → ¬ (5 ≤ o ∧ o ≤ 8 ∧ k = 8 * ib + L.np) → gI M o k = gI m o k := fun o k z1 z2 => by rw [hM]; exact (ge_n (by omega)).trans ((ge_n (by omega)).trans ((ge_n (by omega)).trans ((ge_n (by omega)).trans (ge_n (by omega)))))
  have gl : ∀ o k, ¬ (o = 4 ∧ k = 8 * ib + L.np) → gL M o k = gL m o k := fun o k z => by rw [hM]; show gL (sL m 4 _ _) o k = _; rw [gL_sL, if_neg z]
  refine ⟨h0.c (by rw [hX]; rfl) (gm _ _ (by omega) (by omega)) (fun r j hr hj => gx _ _ (by omega) (by have := roll_o hr; omega) (by have := roll_o hr; omega)), ?_, h2.c ⟨rfl, rfl⟩ (fun o k _ _ => gx _ _ (by omega) (by omega) (by omega)) (fun o k _ => gm _ _ (by omega) (by omega)) (fun k => gl _ _ (by omega)), h3.c rfl (fun o k _ _ => gx _ _ (by omega) (by omega) (by omega)) (fun o k _ => gm _ _ (by omega) (by omega)), h4.c ⟨rfl, rfl⟩ (fun o k _ _ => gx _ _ (by omega) (by omega) (by omega)) (fun o k _ => gm _ _ (by omega) (by omega)) (fun k => gl _ _ (by omega)), h5.c (fun k => gx _ _ (by omega) (by omega) (by omega)) (fun k => gm _ _ (by omega) (by omega)), h6.c (fun k => gx _ _ (by omega) (by omega) (by omega)) (fun k => gm _ _ (by omega) (by omega)), ?_, h8.c (gx _ _ (by omega) (by omega) (by omega)) (gm _ _ (by omega) (by omega)), h9.c rfl (fun o k _ => gx _ _ (by omega) (by omega) (by omega)) (fun o k _ => gm _ _ (by omega) (by omega))⟩
  · refine ⟨⟨by show L.np + 1 ≤ 8; omega, by rw [hX]; exact (ge_n (by omega)).trans ((ge_n (by omega)).trans ((ge_n (by omega)).trans ge_s)), by rw [hM]; exact ge_s⟩, fun i hi => ?_⟩
    have hi' : i < L.np + 1 := hi
    show NameR _ _ (if i = L.np then l else L.pn i) ∧ _
    by_cases c : i = L.np
    · subst c
      rw [if_pos rfl]
      refine ⟨⟨hN.1, hN.2.1, hN.2.2.1, ?_, ?_⟩, ⟨v1, hv1, ?_, ?_⟩, ⟨v2, hv2, ?_, ?_⟩, ⟨v3, hv3, ?_, ?_⟩⟩
      · rw [hX]; exact (ge_n (by omega)).trans ((ge_n (by omega)).trans ((ge_n (by omega)).trans ((ge_n (by omega)).trans ge_s)))
      · rw [hM]; show gL (sL m 4 _ _) 4 _ = _; rw [gL_sL, if_pos ⟨rfl, rfl⟩]
      · rw [hX, show 3 * L.np = L.np * 3 + 0 by omega]; exact (ge_n (by omega)).trans ((ge_n (by omega)).trans ge_s)
      · rw [hM]; exact (ge_n (by omega)).trans ((ge_n (by omega)).trans ((ge_n (by omega)).trans ((ge_n (by omega)).trans ge_s)))
      · rw [hX, show 3 * L.np + 1 = L.np * 3 + 1 by omega]; exact (ge_n (by omega)).trans ge_s
      · rw [hM]; exact (ge_n (by omega)).trans ((ge_n (by omega)).trans ((ge_n (by omega)).trans ge_s))
      · rw [hX, show 3 * L.np + 2 = L.np * 3 + 2 by omega]; exact ge_s
      · rw [hM]; exact (ge_n (by omega)).trans ((ge_n (by omega)).trans ge_s)
    · rw [if_neg c, gx _ _ (by omega) (by omega) (by omega), gx _ _ (by omega) (by omega) (by omega), gx _ _ (by omega) (by omega) (by omega), gx _ _ (by omega) (by omega) (by omega), gm _ _ (by omega) (by omega), gm _ _ (by omega) (by omega), gm _ _ (by omega) (by omega), gl _ _ (by omega)]
      exact h1.2 i (by omega)
  · refine ⟨fun i hi => ?_, fun i hi1 hi2 => (gx _ _ (by omega) (by omega) (by omega)).trans (h7.2 i (by have : L.np + 1 ≤ i := hi1; omega) hi2)⟩
    have hi' : i < L.np + 1 := hi
    by_cases c : i = L.np
    · subst c
      refine ⟨0, Nat.two_pow_pos _, (gx _ _ (by omega) (by omega) (by omega)).trans (h7.2 _ (Nat.le_refl _) hn), ?_⟩
      rw [hM]; exact (ge_n (by omega)).trans ge_s
    · rw [gx _ _ (by omega) (by omega) (by omega), gm _ _ (by omega) (by omega)]
      exact h7.1 i (by omega)
end Pp
