/-! ===== statements: person, title, bridge; they go alike ===== -/
section Sr
variable {t : Nat → Nat} {n p ls ib A B : Nat} {L : LD} {x m : St}
theorem rolls (h : RP ls ib L x m A B) : (gI x (ls + 1) 0 = nI 8 ∧ gI x (ls + 1) 1 = nI 3) ∧ (gI x (ls + 4) 0 = nI 12 ∧ gI x (ls + 4) 1 = nI 2) ∧ (gI x (ls + 7) 0 = nI 6 ∧ gI x (ls + 7) 1 = nI 2) ∧ (gI x (ls + 10) 0 = nI 8 ∧ gI x (ls + 10) 1 = nI 3) ∧ (gI x (ls + 13) 0 = nI 4 ∧ gI x (ls + 13) 1 = nI 1) := by
  obtain ⟨⟨r1, q1⟩, ⟨r2, q2⟩, ⟨r3, q3⟩, ⟨r4, q4⟩, r5, q5⟩ := rlS h.1.1
  have e := h.1.2.2.2.2
  refine ⟨?_, ?_, ?_, ?_, ?_⟩
  · have := e _ r1; rw [q1] at this; exact this
  · have := e _ r2; rw [q2] at this; exact this
  · have := e _ r3; rw [q3] at this; exact this
  · have := e _ r4; rw [q4] at this; exact this
  · have := e _ r5; rw [q5] at this; exact this
theorem DC.inc (o : Nat) : DC ls ib (incM o) := DC.if0
theorem stTitle {c a e v : Nat} {l : List Nat} (hT : TS t n p c a e l v x m) (hc : c ≠ 302) (hP : RP ls ib L x m A B) (hA : A ≤ p) (hB : B ≤ p) : ∃ b x' m', f_X5_newTitle x = some (bi b, x') ∧ f_X11_title m = some ((), m') ∧ StOK t n p ls ib b x m x' m' := by
  have hl := land_o hP.1.1
  have hlB := landB_of hP.1.1
  have hib := hP.1.2.1
  have q := lnS hP.1.1
  obtain ⟨hn, e4, em⟩ := hP.2.2.1.1
  have h38 := hP.1.2.2.2.1
  have e0 := (rolls hP).2.1.1
  have X := e_X5_newTitle x
  have M := e_X11_title m
  dsimp only [ltt] at X
  rw [hP.1.2.2.1, if_pos hlB] at X
  rw [h38, if_pos (bk_ix hib).1, (bk_ix hib).2, em] at M
  rcases begB hT hc e4 e0 hn (by omega) with ⟨hs, hb⟩ | ⟨hs, m1, b1, b2, b3, b4, p1, b5, b6⟩
  · rw [if_pos (by rw [hs]; rfl)] at M
    rw [X, M]
    obtain ⟨x', m', c1, c2, c3, c4, c5⟩ := hb
    exact ⟨false, x', m', by rw [c1]; rfl, by rw [c2]; rfl, FL.t c3 c4, .inr ⟨rfl, c5⟩⟩
  rw [if_neg (show ¬ nI L.nt = (12 : Int32) from fun z => by have := (nI_eq (b := 12) (by omega) (by omega)).mp z; omega)] at M
  have hP1 : RP ls ib L (sI x 3 7 0) m1 A B := hP.t b3 b4
  have w2 : (12 : Int32) * nI ib + nI L.nt = nI (12 * ib + L.nt) := by rw [show (12 : Int32) = nI 12 from rfl, pk_mul, nI_add]
  have win : inb (nI (12 * ib + L.nt)) 24 = true := inb_nI (by omega) (by omega)
  have wix : ix (nI (12 * ib + L.nt)) = 12 * ib + L.nt := ix_nI (by omega)
  have hwd : wd 11 * ib ≤ 12 * ib + L.nt ∧ 12 * ib + L.nt < wd 11 * ib + wd 11 := by show 12 * ib ≤ _ ∧ _ < 12 * ib + 12; omega
  have hwd' : wd 10 * ib ≤ 12 * ib + L.nt ∧ 12 * ib + L.nt < wd 10 * ib + wd 10 := hwd
  have d3 : ∀ w, DC ls ib (putM (nI (12 * ib + L.nt)) 24 11 (incM 9) w) := fun w => (DC.inc 9).put win wix (by omega) hwd
  have d1 : DC ls ib (mstM (wl 6) (numM (nI 0) (nI 999) (putM (nI (12 * ib + L.nt)) 24 11 (incM 9)))) := DC.must _ (DC.num _ _ (d3 0))
  have N := nameStep (FX := tokX (nI (400 + 6)) (numX (nI 0) (nI 999) (kpX 4 (nI 0) oneX))) (GM := fun w σ => mstM (wl 6) (numM (nI 0) (nI 999) (putM (nI (12 * ib + L.nt)) 24 11 (incM 9))) (sL σ 10 (12 * ib + L.nt) w)) (p0 := p) (r := ls + 4) hP1 b6 b5 b3 b4 hP1.2.2.1.1.2.1 (rolls hP1).2.1.1 hs (by omega) (by omega) (by omega)
    (fun w x σ hd => by
      obtain ⟨σ', z1, z2, z3⟩ := d1 x (sL σ 10 (12 * ib + L.nt) w) hd
      exact ⟨σ', z1, (S0.l (by omega)).tr z2, (FL.sml hwd').tr z3⟩) b2
    (fun l' p2 x2 m2 hN hA2 => by
      have hFL : FL ls ib x m (sI (sI (sI x 3 7 0) (ls + 4 + 1) L.nt (nI (pk5 l'))) (ls + 4) 4 (nI (L.nt + 1))) (sL m1 10 (12 * ib + L.nt) (lN (pk8 l'))) := ((FL.t b3 b4).tr ((FL.sx (by omega) (by omega)).tr (FL.sx (by omega) (by omega)))).tr (FL.sml hwd')
      have hA3 : AL t n p p2 (sI (sI (sI x 3 7 0) (ls + 4 + 1) L.nt (nI (pk5 l'))) (ls + 4) 4 (nI (L.nt + 1))) (sL m1 10 (12 * ib + L.nt) (lN (pk8 l'))) x2 (sL m2 10 (12 * ib + L.nt) (lN (pk8 l'))) := ⟨hA2.1, hA2.2.1.c (S3.rf _) (S0.l (by omega)), hA2.2.2.1, hA2.2.2.2.wl (by omega)⟩
      show Gl t n p ls ib x m (tokX (nI (400 + 6)) _) (fun σ => mstM (wl 6) _ (sL σ 10 (12 * ib + L.nt) (lN (pk8 l')))) x2 m2
      refine tokStep (x := x2) (m := sL m2 10 (12 * ib + L.nt) (lN (pk8 l'))) (by omega) hA3 hFL (DC.num _ _ (d3 0)) (fun p3 x3 m3 hA4 => ?_)
      refine numStep (by omega) (by omega) hA4 hFL d3 (fun v p4 x4 m4 _ hv2 hv hA5 => ?_)
      refine putStep hA5 win wix (by omega) (fun hA6 => ?_)
      refine kpStep (s := L.nt) (w := 2) (cl := 0) hA6 hP.1.1 hP1.1.2.2.1 ge_s ((ge_n (by omega)).trans ((ge_n (by omega)).trans (rolls hP1).2.1.2)) (by omega) (by omega) (by omega) (by omega) (by omega) (by omega) hv (fun hA7 => ?_)
      exact incStep hA7 hib ((ge_n (by omega)).trans hP1.1.2.2.2.1) ((ge_n (by omega)).trans hP1.2.2.1.1.2.2) (by omega) rfl ((hFL.tr (FL.sx (by omega) (by omega))).tr (FL.sm (.inr hwd))) hA hB (hP1.ttl hs hN hv2))
  obtain ⟨b, x', m', z1, z2, z3⟩ := N
  refine ⟨b, x', m', ?_, ?_, z3⟩
  · rw [X, b1]
    dsimp only [Option.bind]
    rw [if_neg (by decide), hP1.1.2.2.1, if_pos hlB]
    exact z1
  · rw [M, b2]
    rw [b2] at z2
    dsimp only [Option.bind] at z2 ⊢
    by_cases h0 : gI m1 0 8 = 0
    · rw [decide_eq_true h0, bT] at z2 ⊢
      rw [hP1.1.2.2.2.1, if_pos (bk_ix hib).1, (bk_ix hib).2, hP1.2.2.1.1.2.2, w2]
      dsimp only [ltt]
      rw [← z2]
      cases f_X11_fresh m1 with
      | none => rfl
      | some w =>
        dsimp only
        rw [if_pos win]
        show mstM (wl 6) (numM (nI 0) (nI 999) (putM (nI (12 * ib + L.nt)) 24 11 (incM 9))) (sL w.2 10 (ix (nI (12 * ib + L.nt))) w.1) = _
        rw [wix]
    · rw [decide_eq_false h0, bF] at z2 ⊢
      exact z2
theorem stBridge {c a e v : Nat} {l : List Nat} (hT : TS t n p c a e l v x m) (hc : c ≠ 302) (hP : RP ls ib L x m A B) (hA : A ≤ p) (hB : B ≤ p) : ∃ b x' m', f_X5_newBridge x = some (bi b, x') ∧ f_X11_bridge m = some ((), m') ∧ StOK t n p ls ib b x m x' m' := by
  have hl := land_o hP.1.1
  have hlB := landB_of hP.1.1
  have hib := hP.1.2.1
  have q := lnS hP.1.1
  obtain ⟨hn, e4, em⟩ := hP.2.2.2.2.1.1
  have h38 := hP.1.2.2.2.1
  have e0 := (rolls hP).2.2.2.2.1
  have X := e_X5_newBridge x
  have M := e_X11_bridge m
  dsimp only [ltt] at X
  rw [hP.1.2.2.1, if_pos hlB] at X
  rw [h38, if_pos (bk_ix hib).1, (bk_ix hib).2, em] at M
  rcases begB hT hc e4 e0 hn (by omega) with ⟨hs, hb⟩ | ⟨hs, m1, b1, b2, b3, b4, p1, b5, b6⟩
  · rw [if_pos (by rw [hs]; rfl)] at M
    rw [X, M]
    obtain ⟨x', m', c1, c2, c3, c4, c5⟩ := hb
    exact ⟨false, x', m', by rw [c1]; rfl, by rw [c2]; rfl, FL.t c3 c4, .inr ⟨rfl, c5⟩⟩
  rw [if_neg (show ¬ nI L.nb = (4 : Int32) from fun z => by have := (nI_eq (b := 4) (by omega) (by omega)).mp z; omega)] at M
  have hP1 : RP ls ib L (sI x 3 7 0) m1 A B := hP.t b3 b4
  have w2 : (4 : Int32) * nI ib + nI L.nb = nI (4 * ib + L.nb) := by rw [show (4 : Int32) = nI 4 from rfl, pk_mul, nI_add]
  have win : inb (nI (4 * ib + L.nb)) 8 = true := inb_nI (by omega) (by omega)
  have wix : ix (nI (4 * ib + L.nb)) = 4 * ib + L.nb := ix_nI (by omega)
  have hwd : wd 22 * ib ≤ 4 * ib + L.nb ∧ 4 * ib + L.nb < wd 22 * ib + wd 22 := by show 4 * ib ≤ _ ∧ _ < 4 * ib + 4; omega
  have hwd' : wd 21 * ib ≤ 4 * ib + L.nb ∧ 4 * ib + L.nb < wd 21 * ib + wd 21 := hwd
  have d3 : ∀ w, DC ls ib (putM (nI (4 * ib + L.nb)) 8 22 (incM 20) w) := fun w => (DC.inc 20).put win wix (by omega) hwd
  have d1 : DC ls ib (numM (nI 0) (nI 9999) (putM (nI (4 * ib + L.nb)) 8 22 (incM 20))) := DC.num _ _ (d3 0)
  have N := nameStep (FX := numX (nI 0) (nI 9999) (kpX 13 (nI 0) oneX)) (GM := fun w σ => numM (nI 0) (nI 9999) (putM (nI (4 * ib + L.nb)) 8 22 (incM 20)) (sL σ 21 (4 * ib + L.nb) w)) (p0 := p) (r := ls + 13) hP1 b6 b5 b3 b4 hP1.2.2.2.2.1.1.2.1 (rolls hP1).2.2.2.2.1 hs (by omega) (by omega) (by omega)
    (fun w x σ hd => by
      obtain ⟨σ', z1, z2, z3⟩ := d1 x (sL σ 21 (4 * ib + L.nb) w) hd
      exact ⟨σ', z1, (S0.l (by omega)).tr z2, (FL.sml hwd').tr z3⟩) b2
    (fun l' p2 x2 m2 hN hA2 => by
      have hFL : FL ls ib x m (sI (sI (sI x 3 7 0) (ls + 13 + 1) L.nb (nI (pk5 l'))) (ls + 13) 4 (nI (L.nb + 1))) (sL m1 21 (4 * ib + L.nb) (lN (pk8 l'))) := ((FL.t b3 b4).tr ((FL.sx (by omega) (by omega)).tr (FL.sx (by omega) (by omega)))).tr (FL.sml hwd')
      have hA3 : AL t n p p2 (sI (sI (sI x 3 7 0) (ls + 13 + 1) L.nb (nI (pk5 l'))) (ls + 13) 4 (nI (L.nb + 1))) (sL m1 21 (4 * ib + L.nb) (lN (pk8 l'))) x2 (sL m2 21 (4 * ib + L.nb) (lN (pk8 l'))) := ⟨hA2.1, hA2.2.1.c (S3.rf _) (S0.l (by omega)), hA2.2.2.1, hA2.2.2.2.wl (by omega)⟩
      show Gl t n p ls ib x m (numX (nI 0) (nI 9999) _) (fun σ => numM (nI 0) (nI 9999) _ (sL σ 21 (4 * ib + L.nb) (lN (pk8 l')))) x2 m2
      refine numStep (x := x2) (m := sL m2 21 (4 * ib + L.nb) (lN (pk8 l'))) (by omega) (by omega) hA3 hFL d3 (fun v p4 x4 m4 _ hv2 hv hA5 => ?_)
      refine putStep hA5 win wix (by omega) (fun hA6 => ?_)
      refine kpStep (s := L.nb) (w := 1) (cl := 0) hA6 hP.1.1 hP1.1.2.2.1 ge_s ((ge_n (by omega)).trans ((ge_n (by omega)).trans (rolls hP1).2.2.2.2.2)) (by omega) (by omega) (by omega) (by omega) (by omega) (by omega) hv (fun hA7 => ?_)
      exact incStep hA7 hib ((ge_n (by omega)).trans hP1.1.2.2.2.1) ((ge_n (by omega)).trans hP1.2.2.2.2.1.1.2.2) (by omega) rfl ((hFL.tr (FL.sx (by omega) (by omega))).tr (FL.sm (.inr hwd))) hA hB (hP1.brd hs hN hv2))
  obtain ⟨b, x', m', z1, z2, z3⟩ := N
  refine ⟨b, x', m', ?_, ?_, z3⟩
  · rw [X, b1]
    dsimp only [Option.bind]
    rw [if_neg (by decide), hP1.1.2.2.1, if_pos hlB]
    exact z1
  · rw [M, b2]
    rw [b2] at z2
    dsimp only [Option.bind] at z2 ⊢
    by_cases h0 : gI m1 0 8 = 0
    · rw [decide_eq_true h0, bT] at z2 ⊢
      rw [hP1.1.2.2.2.1, if_pos (bk_ix hib).1, (bk_ix hib).2, hP1.2.2.2.2.1.1.2.2, w2]
      dsimp only [ltt]
      rw [← z2]
      cases f_X11_fresh m1 with
      | none => rfl
      | some w =>
        dsimp only
        rw [if_pos win]
        show numM (nI 0) (nI 9999) (putM (nI (4 * ib + L.nb)) 8 22 (incM 20)) (sL w.2 21 (ix (nI (4 * ib + L.nb))) w.1) = _
        rw [wix]
    · rw [decide_eq_false h0, bF] at z2 ⊢
      exact z2
theorem stPerson {c a e v : Nat} {l : List Nat} (hT : TS t n p c a e l v x m) (hc : c ≠ 302) (hP : RP ls ib L x m A B) (hA : A ≤ p) (hB : B ≤ p) : ∃ b x' m', f_X5_newPerson x = some (bi b, x') ∧ f_X11_person m = some ((), m') ∧ StOK t n p ls ib b x m x' m' := by
  have hl := land_o hP.1.1
  have hlB := landB_of hP.1.1
  have hib := hP.1.2.1
  have q := lnS hP.1.1
  obtain ⟨hn, e4, em⟩ := hP.2.1.1
  have h38 := hP.1.2.2.2.1
  have e0 := (rolls hP).1.1
  have X := e_X5_newPerson x
  have M := e_X11_person m
  dsimp only [ltt] at X
  rw [hP.1.2.2.1, if_pos hlB] at X
  rw [h38, if_pos (bk_ix hib).1, (bk_ix hib).2, em] at M
  rcases begB hT hc e4 e0 hn (by omega) with ⟨hs, hb⟩ | ⟨hs, m1, b1, b2, b3, b4, p1, b5, b6⟩
  · rw [if_pos (by rw [hs]; rfl), e_X11_person_20] at M
    rw [X, M]
    obtain ⟨x', m', c1, c2, c3, c4, c5⟩ := hb
    exact ⟨false, x', m', by rw [c1]; rfl, by rw [c2]; rfl, FL.t c3 c4, .inr ⟨rfl, c5⟩⟩
  rw [if_neg (show ¬ nI L.np = (8 : Int32) from fun z => by have := (nI_eq (b := 8) (by omega) (by omega)).mp z; omega), e_X11_person_20] at M
  have hP1 : RP ls ib L (sI x 3 7 0) m1 A B := hP.t b3 b4
  have w2 : (8 : Int32) * nI ib + nI L.np = nI (8 * ib + L.np) := by rw [show (8 : Int32) = nI 8 from rfl, pk_mul, nI_add]
  have win : inb (nI (8 * ib + L.np)) 16 = true := inb_nI (by omega) (by omega)
  have wix : ix (nI (8 * ib + L.np)) = 8 * ib + L.np := ix_nI (by omega)
  have hwd : 8 * ib ≤ 8 * ib + L.np ∧ 8 * ib + L.np < 8 * ib + 8 := by omega
  have d8 : DC ls ib (fun σ13 => if inb (nI (8 * ib + L.np)) 16 = true then (ltt (sI σ13 8 (ix (nI (8 * ib + L.np))) (0 : Int32)) (incM 3)) else none) := by
    intro y σ hd
    obtain ⟨σ', z1, z2⟩ := ((DC.inc 3).put (w2 := (nI (8 * ib + L.np))) (v := 0) (N := 16) (o := 8) win wix (by omega) hwd) y σ hd
    exact ⟨σ', z1, z2⟩
  have d7 : ∀ w, DC ls ib (putM (nI (8 * ib + L.np)) 16 7 (fun σ13 => if inb (nI (8 * ib + L.np)) 16 = true then (ltt (sI σ13 8 (ix (nI (8 * ib + L.np))) (0 : Int32)) (incM 3)) else none) w) := fun w => d8.put win wix (by omega) hwd
  have d6n : DC ls ib (numM (nI 0) (nI 100) (putM (nI (8 * ib + L.np)) 16 7 (fun σ13 => if inb (nI (8 * ib + L.np)) 16 = true then (ltt (sI σ13 8 (ix (nI (8 * ib + L.np))) (0 : Int32)) (incM 3)) else none))) := DC.num _ _ (d7 0)
  have d6 : ∀ w, DC ls ib (putM (nI (8 * ib + L.np)) 16 6 (mstM (wl 4) (numM (nI 0) (nI 100) (putM (nI (8 * ib + L.np)) 16 7 (fun σ13 => if inb (nI (8 * ib + L.np)) 16 = true then (ltt (sI σ13 8 (ix (nI (8 * ib + L.np))) (0 : Int32)) (incM 3)) else none)))) w) := fun w => (DC.must _ d6n).put win wix (by omega) hwd
  have d5n : DC ls ib (numM (nI 0) (nI 999) (putM (nI (8 * ib + L.np)) 16 6 (mstM (wl 4) (numM (nI 0) (nI 100) (putM (nI (8 * ib + L.np)) 16 7 (fun σ13 => if inb (nI (8 * ib + L.np)) 16 = true then (ltt (sI σ13 8 (ix (nI (8 * ib + L.np))) (0 : Int32)) (incM 3)) else none)))))) := DC.num _ _ (d6 0)
  have d5 : ∀ w, DC ls ib (putM (nI (8 * ib + L.np)) 16 5 (mstM (wl 3) (numM (nI 0) (nI 999) (putM (nI (8 * ib + L.np)) 16 6 (mstM (wl 4) (numM (nI 0) (nI 100) (putM (nI (8 * ib + L.np)) 16 7 (fun σ13 => if inb (nI (8 * ib + L.np)) 16 = true then (ltt (sI σ13 8 (ix (nI (8 * ib + L.np))) (0 : Int32)) (incM 3)) else none))))))) w) := fun w => (DC.must _ d5n).put win wix (by omega) hwd
  have d4n : DC ls ib (numM (nI 0) (nI 99) (putM (nI (8 * ib + L.np)) 16 5 (mstM (wl 3) (numM (nI 0) (nI 999) (putM (nI (8 * ib + L.np)) 16 6 (mstM (wl 4) (numM (nI 0) (nI 100) (putM (nI (8 * ib + L.np)) 16 7 (fun σ13 => if inb (nI (8 * ib + L.np)) 16 = true then (ltt (sI σ13 8 (ix (nI (8 * ib + L.np))) (0 : Int32)) (incM 3)) else none))))))))) := DC.num _ _ (d5 0)
  have d1 : DC ls ib (mstM (wl 2) (numM (nI 0) (nI 99) (putM (nI (8 * ib + L.np)) 16 5 (mstM (wl 3) (numM (nI 0) (nI 999) (putM (nI (8 * ib + L.np)) 16 6 (mstM (wl 4) (numM (nI 0) (nI 100) (putM (nI (8 * ib + L.np)) 16 7 (fun σ13 => if inb (nI (8 * ib + L.np)) 16 = true then (ltt (sI σ13 8 (ix (nI (8 * ib + L.np))) (0 : Int32)) (incM 3)) else none)))))))))) := DC.must _ d4n
  have N := nameStep (FX := tokX (nI (400 + 2)) (numX (nI 0) (nI 99) (kpX 1 (nI 0) (tokX (nI (400 + 3)) (numX (nI 0) (nI 999) (kpX 1 (nI 1) (tokX (nI (400 + 4)) (numX (nI 0) (nI 100) (kpX 1 (nI 2) oneX))))))))) (GM := fun w σ => mstM (wl 2) (numM (nI 0) (nI 99) (putM (nI (8 * ib + L.np)) 16 5 (mstM (wl 3) (numM (nI 0) (nI 999) (putM (nI (8 * ib + L.np)) 16 6 (mstM (wl 4) (numM (nI 0) (nI 100) (putM (nI (8 * ib + L.np)) 16 7 (fun σ13 => if inb (nI (8 * ib + L.np)) 16 = true then (ltt (sI σ13 8 (ix (nI (8 * ib + L.np))) (0 : Int32)) (incM 3)) else none))))))))) (sL σ 4 (8 * ib + L.np) w)) (p0 := p) (r := ls + 1) hP1 b6 b5 b3 b4 hP1.2.1.1.2.1 (rolls hP1).1.1 hs (by omega) (by omega) (by omega)
    (fun w x σ hd => by
      obtain ⟨σ', z1, z2, z3⟩ := d1 x (sL σ 4 (8 * ib + L.np) w) hd
      exact ⟨σ', z1, (S0.l (by omega)).tr z2, (FL.sml (o := 4) hwd).tr z3⟩) b2
    (fun l' p2 x2 m2 hN hA2 => by
      have hFL : FL ls ib x m (sI (sI (sI x 3 7 0) (ls + 1 + 1) L.np (nI (pk5 l'))) (ls + 1) 4 (nI (L.np + 1))) (sL m1 4 (8 * ib + L.np) (lN (pk8 l'))) := ((FL.t b3 b4).tr ((FL.sx (by omega) (by omega)).tr (FL.sx (by omega) (by omega)))).tr (FL.sml (o := 4) hwd)
      have hA3 : AL t n p p2 (sI (sI (sI x 3 7 0) (ls + 1 + 1) L.np (nI (pk5 l'))) (ls + 1) 4 (nI (L.np + 1))) (sL m1 4 (8 * ib + L.np) (lN (pk8 l'))) x2 (sL m2 4 (8 * ib + L.np) (lN (pk8 l'))) := ⟨hA2.1, hA2.2.1.c (S3.rf _) (S0.l (by omega)), hA2.2.2.1, hA2.2.2.2.wl (by omega)⟩
      show Gl t n p ls ib x m (tokX (nI (400 + 2)) _) (fun σ => mstM (wl 2) _ (sL σ 4 (8 * ib + L.np) (lN (pk8 l')))) x2 m2
      refine tokStep (x := x2) (m := sL m2 4 (8 * ib + L.np) (lN (pk8 l'))) (by omega) hA3 hFL d4n (fun p3 x3 m3 hA4 => ?_)
      refine numStep (by omega) (by omega) hA4 hFL d5 (fun v1 p4 x4 m4 _ hv1 hv hA5 => ?_)
      refine putStep hA5 win wix (by omega) (fun hA6 => ?_)
      refine kpStep (s := L.np) (w := 3) (cl := 0) hA6 hP.1.1 hP1.1.2.2.1 ge_s ((ge_n (by omega)).trans ((ge_n (by omega)).trans (rolls hP1).1.2)) (by omega) (by omega) (by omega) (by omega) (by omega) (by omega) hv (fun hA7 => ?_)
      have hFL1 := (hFL.tr (FL.sx (o := ls + 1 + 2) (k := L.np * 3 + 0) (v := nI v1) (by omega) (by omega))).tr (FL.sm (o := 5) (v := nI v1) (.inr hwd))
      refine tokStep (by omega) hA7 hFL1 d5n (fun p5 x5 m5 hA8 => ?_)
      refine numStep (by omega) (by omega) hA8 hFL1 d6 (fun v2 p6 x6 m6 _ hv2 hv' hA9 => ?_)
      refine putStep hA9 win wix (by omega) (fun hA10 => ?_)
      refine kpStep (s := L.np) (w := 3) (cl := 1) hA10 hP.1.1 hP1.1.2.2.1 ((ge_n (by omega)).trans ge_s) ((ge_n (by omega)).trans ((ge_n (by omega)).trans ((ge_n (by omega)).trans (rolls hP1).1.2))) (by omega) (by omega) (by omega) (by omega) (by omega) (by omega) hv' (fun hA11 => ?_)
      have hFL2 := (hFL1.tr (FL.sx (o := ls + 1 + 2) (k := L.np * 3 + 1) (v := nI v2) (by omega) (by omega))).tr (FL.sm (o := 6) (v := nI v2) (.inr hwd))
      refine tokStep (by omega) hA11 hFL2 d6n (fun p7 x7 m7 hA12 => ?_)
      refine numStep (by omega) (by omega) hA12 hFL2 d7 (fun v3 p8 x8 m8 _ hv3 hv'' hA13 => ?_)
      refine putStep hA13 win wix (by omega) (fun hA14 => ?_)
      refine kpStep (s := L.np) (w := 3) (cl := 2) hA14 hP.1.1 hP1.1.2.2.1 ((ge_n (by omega)).trans ((ge_n (by omega)).trans ge_s)) ((ge_n (by omega)).trans ((ge_n (by omega)).trans ((ge_n (by omega)).trans ((ge_n (by omega)).trans (rolls hP1).1.2)))) (by omega) (by omega) (by omega) (by omega) (by omega) (by omega) hv'' (fun hA15 => ?_)
      have hFL3 := (hFL2.tr (FL.sx (o := ls + 1 + 2) (k := L.np * 3 + 2) (v := nI v3) (by omega) (by omega))).tr (FL.sm (o := 7) (v := nI v3) (.inr hwd))
      refine putStep (w2 := (nI (8 * ib + L.np))) (v := 0) (N := 16) (o := 8) (G := incM 3) hA15 win wix (by omega) (fun hA16 => ?_)
      exact incStep hA16 hib ((ge_n (by omega)).trans ((ge_n (by omega)).trans ((ge_n (by omega)).trans ((ge_n (by omega)).trans hP1.1.2.2.2.1)))) ((ge_n (by omega)).trans ((ge_n (by omega)).trans ((ge_n (by omega)).trans ((ge_n (by omega)).trans hP1.2.1.1.2.2)))) (by omega) rfl (hFL3.tr (FL.sm (o := 8) (.inr hwd))) hA hB (hP1.prs hs hN hv1 hv2 hv3))
  obtain ⟨b, x', m', z1, z2, z3⟩ := N
  refine ⟨b, x', m', ?_, ?_, z3⟩
  · rw [X, b1]
    dsimp only [Option.bind]
    rw [if_neg (by decide), hP1.1.2.2.1, if_pos hlB]
    exact z1
  · rw [M, b2]
    rw [b2] at z2
    dsimp only [Option.bind] at z2 ⊢
    by_cases h0 : gI m1 0 8 = 0
    · rw [decide_eq_true h0, bT] at z2 ⊢
      rw [hP1.1.2.2.2.1, if_pos (bk_ix hib).1, (bk_ix hib).2, hP1.2.1.1.2.2, w2]
      dsimp only [ltt]
      rw [← z2]
      cases f_X11_fresh m1 with
      | none => rfl
      | some w =>
        dsimp only
        rw [if_pos win]
        show mstM (wl 2) (numM (nI 0) (nI 99) (putM (nI (8 * ib + L.np)) 16 5 (mstM (wl 3) (numM (nI 0) (nI 999) (putM (nI (8 * ib + L.np)) 16 6 (mstM (wl 4) (numM (nI 0) (nI 100) (putM (nI (8 * ib + L.np)) 16 7 (fun σ13 => if inb (nI (8 * ib + L.np)) 16 = true then (ltt (sI σ13 8 (ix (nI (8 * ib + L.np))) (0 : Int32)) (incM 3)) else none))))))))) (sL w.2 4 (ix (nI (8 * ib + L.np))) w.1) = _
        rw [wix]
    · rw [decide_eq_false h0, bF] at z2 ⊢
      exact z2
end Sr
