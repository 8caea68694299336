/-! ===== statements: a law, all of it ===== -/
section Lv
variable {t : Nat → Nat} {n p ls ib A B : Nat} {L : LD} {x m : St}
theorem law3 {x0 m0 x1 m1 x6 m6 : St} {p0 p3 : Nat} {s : List Tok} {w2 : Int32} (hP : RP ls ib L x1 m1 A B) (hn : L.nl < 8) (hA : A ≤ p0) (hB : B ≤ p0) (hp : p0 < p3) (hFL : FL ls ib x0 m0 x6 m6) (hLX : LaX ls A L.nl x1 x6) (hLM : LaM ib B L.nl m1 m6) (hN : NX t n p3 x6 m6) (hs : Ex s false 0)
    (hx12 : gI x6 (ls + 12) (3 * L.nl) = nI A ∧ gI x6 (ls + 12) (3 * L.nl + 1) = nI (A + (cX s).length)) (h10 : gI x6 (ls + 10) 4 = nI (L.nl + 1)) (hcx : CodeX x6 (ls + 19) A (cX s)) (h9 : gI x6 ls 9 = nI (A + (cX s).length))
    (hm17 : gI m6 17 (8 * ib + L.nl) = nI B ∧ gI m6 18 (8 * ib + L.nl) = nI (B + (cM s).length)) (hcm : CodeM m6 (1600 * ib + B) (cM s)) (h37 : gI m6 0 37 = nI (B + (cM s).length)) (hA' : A + (cX s).length ≤ p3) (hB' : B + (cM s).length ≤ p3) (hw : inb w2 16 = true) (hj : ix w2 = 8 * ib + L.nl) :
    ∃ b x' m', lX3 (nI L.nl) x6 = some (bi b, x') ∧ rd3 w2 m6 = some ((), m') ∧ StL t n p0 ls ib b x0 m0 x' m' := by
  have hl := land_o hP.1.1
  have hlB := landB_of hP.1.1
  have hib := hP.1.2.1
  have q := lnS hP.1.1
  have hR6 : gR x6 5 1 = ls := (hLX.2 5 1).trans hP.1.2.2.1
  have hr1 : gI x6 (ls + 10) 1 = nI 3 := (hLX.1 _ _ (by omega) (by omega) (by omega) (by omega) (by omega) (by omega) (by omega)).trans (rolls hP).2.2.2.1.2
  have h38 : gI m6 0 38 = nI ib := (hLM.1 0 38 (by unfold MFx; omega) (by omega)).trans hP.1.2.2.2.1
  by_cases h0 : gI m6 0 8 = 0
  rotate_left
  · obtain ⟨y, e1, e2, e3⟩ := hN.bd h0
    refine ⟨false, y, _, ?_, rd3_n hw hj h0, .inl ⟨(hFL.tr (FL.t e2 (TM.rf _))).tr (FL.lw hn (by omega)), .inr ⟨rfl, e3.c (S3.rf _) (S0.s (by omega))⟩⟩⟩
    unfold lX3
    rw [test_bad e1 e3 0 23]; rfl
  obtain ⟨c, hc⟩ := (NXc.of hN).resolve_right (fun z => z h0)
  obtain ⟨b, x7, m7, e1, e2, ⟨bf1, bf2⟩, e3⟩ := testL hc hP.1.1 hR6 hib h9 h38 h37 hA' hB' (by omega)
  have hbn := hc.bn
  unfold lX3 rd3
  rw [if_pos h0, e1, e2]
  dsimp only [Option.bind]
  have hFL7 : FL ls ib x0 m0 x7 m7 := hFL.tr bf1
  rcases e3 with ⟨k0, k1⟩ | ⟨rfl, k0, p', u, k1, k2, k3, k4, ⟨k5, k6⟩, ⟨k7, k8⟩, ⟨k9, k10⟩, k11⟩
  · rw [tl3_n hw hj k0]
    cases b with
    | false =>
      rcases k1 with k1 | k1
      · exact ⟨false, x7, _, rfl, rfl, .inl ⟨hFL7.tr (FL.lw hn (by omega)), .inr ⟨rfl, k1.c (S3.rf _) (S0.s (by omega))⟩⟩⟩
      · cases k1.1
    | true =>
      have hR7 : gR x7 5 1 = ls := (bf2.2.1 5 1).trans hR6
      have hr7 : gI x7 (ls + 10) 1 = nI 3 := (bf2.1 _ _ (by omega) (by omega) (by omega) (by omega)).trans hr1
      have h107 : gI x7 (ls + 10) 4 = nI (L.nl + 1) := (bf2.1 _ _ (by omega) (by omega) (by omega) (by omega)).trans h10
      dsimp only [ltt]
      rw [bT, hR7, if_pos hlB, if_pos hlB, show (2 : Int32) = nI 2 from rfl, put_X _ h107 hr7 (by omega) (by omega) (by omega) (by omega) (by omega) (by omega)]
      have hFL8 : FL ls ib x0 m0 (sI x7 (ls + 10 + 2) (L.nl * 3 + 2) (gI x7 ls 9)) (sI m7 19 (8 * ib + L.nl) (gI m7 0 37)) := (hFL7.tr (FL.sx (by omega) (by omega))).tr (FL.lw hn (by omega))
      refine ⟨true, _, _, rfl, rfl, ?_⟩
      rcases k1 with k1 | ⟨-, p', k1, k2⟩
      · exact .inr ⟨rfl, hFL8, k1.c (S3.s (by omega)) (S0.s (by omega))⟩
      · exact .inl ⟨hFL8, .inl ⟨rfl, p', by omega, k2.c (S3.s (by omega)) (S0.s (by omega)), fun z => absurd ((ge_n (by omega)).symm.trans z) k0⟩⟩
  · have hR7 : gR x7 5 1 = ls := (bf2.2.1 5 1).trans hR6
    have gx : ∀ o k, ls + 10 ≤ o → o < ls + 19 → gI x7 o k = gI x6 o k := fun o k z1 z2 => k3.1 o k (by omega) (by omega) (by omega) (by omega)
    have gm : ∀ o k, 16 ≤ o → o ≤ 19 → gI m7 o k = gI m6 o k := fun o k z1 z2 => k4.1 o k (by unfold MFx; omega)
    have h387 : gI m7 0 38 = nI ib := (k4.1 0 38 (by unfold MFx; omega)).trans h38
    have h167 : gI m7 16 ib = nI L.nl := (gm _ _ (by omega) (by omega)).trans ((hLM.1 16 ib (by unfold MFx; omega) (by omega)).trans hP.2.2.2.2.2.2.2.2.2.1.2.2)
    rw [tl3_y hw hj k0 hib h387 h167]
    dsimp only [ltt]
    rw [bT, hR7, if_pos hlB, if_pos hlB, show (2 : Int32) = nI 2 from rfl, put_X _ ((gx _ _ (by omega) (by omega)).trans h10) ((gx _ _ (by omega) (by omega)).trans hr1) (by omega) (by omega) (by omega) (by omega) (by omega) (by omega), k6, k8]
    have hx8 : LaX ls A L.nl x1 (sI x7 (ls + 10 + 2) (L.nl * 3 + 2) (nI (A + (cX s).length + (cX u).length))) := (hLX.tr (LaX.of k3 (by omega))).tr (LaX.s (by omega))
    have hm8 : LaM ib B L.nl m1 (sI m7 19 (8 * ib + L.nl) (nI (B + (cM s).length + (cM u).length))) := (hLM.tr (LaM.of k4 (by omega))).tr (LaM.s (by omega))
    have rp := hP.law hn hx8 hm8 hs k11 ((ge_n (by omega)).trans ((gx _ _ (by omega) (by omega)).trans h10)) ((ge_n (by omega)).trans k6) ((ge_n (by omega)).trans k8)
      ⟨(ge_n (by omega)).trans ((gx _ _ (by omega) (by omega)).trans hx12.1), (ge_n (by omega)).trans ((gx _ _ (by omega) (by omega)).trans hx12.2), by rw [show 3 * L.nl + 2 = L.nl * 3 + 2 by omega]; exact ge_s⟩
      (CodeX.app (fun k hk => by rw [ge_n (by omega)]; exact (CodeX.kk hP.1.1 hcx k3 (Nat.le_refl _)) k hk) (fun k hk => by rw [ge_n (by omega)]; exact k5 k hk))
      ⟨(ge_n (by omega)).trans ((gm _ _ (by omega) (by omega)).trans hm17.1), (ge_n (by omega)).trans ((gm _ _ (by omega) (by omega)).trans hm17.2), ge_s⟩
      (CodeM.app (fun k hk => by rw [ge_n (by omega), ge_n (by omega)]; exact (CodeM.kk hcm k4 (Nat.le_refl _)) k hk) (fun k hk => by rw [ge_n (by omega), ge_n (by omega), Nat.add_assoc (1600 * ib)]; exact k7 k hk)) (by omega)
    refine ⟨true, _, _, rfl, rfl, .inl ⟨((hFL7.tr (FL.sx (by omega) (by omega))).tr (FL.lw hn (by omega))).tr (FL.sm (.inr (by show 1 * ib ≤ ib ∧ ib < 1 * ib + 1; omega))), .inl ⟨rfl, p', by omega, k2.c (S3.s (by omega)) ((S0.s (by omega)).tr (S0.s (by omega))), fun _ => ⟨_, _, _, ?_, ?_, rp⟩⟩⟩⟩
    · omega
    · omega
theorem stLaw {c a e v : Nat} {l : List Nat} (hT : TS t n p c a e l v x m) (hc : c ≠ 302) (hP : RP ls ib L x m A B) (hA : A ≤ p) (hB : B ≤ p) : ∃ b x' m', f_X5_newLaw x = some (bi b, x') ∧ f_X11_law m = some ((), m') ∧ StL t n p ls ib b x m x' m' := by
  have hl := land_o hP.1.1
  have hlB := landB_of hP.1.1
  have hib := hP.1.2.1
  have q := lnS hP.1.1
  obtain ⟨hn, e4, em⟩ := hP.2.2.2.2.2.2.2.2.2.1
  have h38 := hP.1.2.2.2.1
  have e0 := (rolls hP).2.2.2.1.1
  have X := lawE_X x
  have M := e_X11_law m
  dsimp only [ltt] at X
  rw [hP.1.2.2.1, if_pos hlB] at X
  rw [h38, if_pos (bk_ix hib).1, (bk_ix hib).2, em] at M
  rcases begB hT hc e4 e0 hn (by omega) with ⟨hs, hb⟩ | ⟨hs, m1, b1, b2, b3, b4, p1, b5, b6⟩
  · rw [if_pos (by rw [hs]; rfl), lawE_M] at M
    rw [X, M]
    obtain ⟨x', m', c1, c2, c3, c4, c5⟩ := hb
    exact ⟨false, x', m', by rw [c1]; rfl, by rw [c2]; rfl, .inl ⟨FL.t c3 c4, .inr ⟨rfl, c5⟩⟩⟩
  rw [if_neg (show ¬ nI L.nl = (8 : Int32) from fun z => by have := (nI_eq (b := 8) (by omega) (by omega)).mp z; omega), lawE_M, b2] at M
  have hP1 : RP ls ib L (sI x 3 7 0) m1 A B := hP.t b3 b4
  rw [b1] at X
  dsimp only [Option.bind] at X M
  rw [if_neg (by decide), hP1.1.2.2.1, if_pos hlB, addR 0 hP1.2.2.2.2.2.2.2.2.2.1.2.1 (rolls hP1).2.2.2.1.1 hs (by omega) (by omega)] at X
  dsimp only [ltt] at X
  have hR2 : gR (sI (sI (sI x 3 7 0) (ls + 10 + 1) L.nl 0) (ls + 10) 4 (nI (L.nl + 1))) 5 1 = ls := hP1.1.2.2.1
  have h92 : gI (sI (sI (sI x 3 7 0) (ls + 10 + 1) L.nl 0) (ls + 10) 4 (nI (L.nl + 1))) ls 9 = nI A := (ge_n (by omega)).trans ((ge_n (by omega)).trans hP1.2.2.2.2.2.2.2.2.2.2.1)
  have pu : f_X8_put (ls + 10) (nI L.nl) 0 (nI A) (sI (sI (sI x 3 7 0) (ls + 10 + 1) L.nl 0) (ls + 10) 4 (nI (L.nl + 1))) = some ((), sI (sI (sI (sI x 3 7 0) (ls + 10 + 1) L.nl 0) (ls + 10) 4 (nI (L.nl + 1))) (ls + 10 + 2) (L.nl * 3 + 0) (nI A)) := put_X (s := L.nl) (w := 3) (cl := 0) _ ge_s ((ge_n (by omega)).trans ((ge_n (by omega)).trans (rolls hP1).2.2.2.1.2)) (by omega) (by omega) (by omega) (by omega) (by omega) (by omega)
  rw [hR2, if_pos hlB, if_pos hlB, h92, pu] at X
  dsimp only at X
  obtain ⟨x3, hx3⟩ : ∃ x3, x3 = sI (sI (sI (sI x 3 7 0) (ls + 10 + 1) L.nl 0) (ls + 10) 4 (nI (L.nl + 1))) (ls + 10 + 2) (L.nl * 3 + 0) (nI A) := ⟨_, rfl⟩
  rw [← hx3] at X
  have s3 : S3 (sI x 3 7 0) x3 := by rw [hx3]; exact ((S3.s (by omega)).tr (S3.s (by omega))).tr (S3.s (by omega))
  have fl3 : FL ls ib x m x3 m1 := by rw [hx3]; exact (FL.t b3 b4).tr (((FL.sx (by omega) (by omega)).tr (FL.sx (by omega) (by omega))).tr (FL.sx (by omega) (by omega)))
  have lx3 : LaX ls A L.nl (sI x 3 7 0) x3 := by rw [hx3]; exact ((LaX.s (by omega)).tr (LaX.s (by omega))).tr (LaX.s (by omega))
  have g12 : gI x3 (ls + 12) (3 * L.nl) = nI A := by rw [hx3, show 3 * L.nl = L.nl * 3 + 0 by omega]; exact ge_s
  have g10 : gI x3 (ls + 10) 4 = nI (L.nl + 1) := by rw [hx3]; exact (ge_n (by omega)).trans ge_s
  have g9 : gI x3 ls 9 = nI A := by rw [hx3]; exact (ge_n (by omega)).trans h92
  have hR3 : gR x3 5 1 = ls := (lx3.2 5 1).trans hP1.1.2.2.1
  have n3 : NX t n p1 x3 m1 := b6.c s3 (S0.rf _)
  have hrl : gI x3 (ls + 10) 1 = nI 3 := (lx3.1 _ _ (by omega) (by omega) (by omega) (by omega) (by omega) (by omega) (by omega)).trans (rolls hP1).2.2.2.1.2
  clear hx3
  unfold lX1 at X
  by_cases h0 : gI m1 0 8 = 0
  rotate_left
  · obtain ⟨y, k1, k2, k3⟩ := n3.bd h0
    rw [sum_bad k1 k3 0 23] at X
    rw [decide_eq_false h0, bF] at M
    exact ⟨false, y, m1, X, M, .inl ⟨fl3.tr (FL.t k2 (TM.rf _)), .inr ⟨rfl, k3⟩⟩⟩
  have w2 : (8 : Int32) * nI ib + nI L.nl = nI (8 * ib + L.nl) := by rw [show (8 : Int32) = nI 8 from rfl, pk_mul, nI_add]
  have win : inb (nI (8 * ib + L.nl)) 16 = true := inb_nI (by omega) (by omega)
  have wix : ix (nI (8 * ib + L.nl)) = 8 * ib + L.nl := ix_nI (by omega)
  rw [decide_eq_true h0, bT, hP1.1.2.2.2.1, if_pos (bk_ix hib).1, (bk_ix hib).2, hP1.2.2.2.2.2.2.2.2.2.1.2.2, w2] at M
  dsimp only [ltt] at M
  rw [if_pos win, wix, hP1.2.2.2.2.2.2.2.2.2.2.2.1] at M
  obtain ⟨c1, hc1⟩ := (NXc.of n3).resolve_right (fun z => z h0)
  have hc2 : NXc t n p1 c1 x3 (sI m1 17 (8 * ib + L.nl) (nI B)) := hc1.cc (S3.rf _) (S0.s (by omega))
  have hbn := hc2.bn
  obtain ⟨b, x4, m4, d1, d2, ⟨bf1, bf2⟩, d3⟩ := sumL hc2 hP.1.1 hR3 hib g9 ((ge_n (by omega)).trans hP1.1.2.2.2.1) ((ge_n (by omega)).trans hP1.2.2.2.2.2.2.2.2.2.2.2.1) (show A ≤ p1 by omega) (show B ≤ p1 by omega) (by omega)
  rw [d1] at X
  rw [d2] at M
  dsimp only [Option.bind] at X M
  have fl4 : FL ls ib x m x4 m4 := (fl3.tr (FL.lw hs (by omega))).tr bf1
  -- what is left of a text that is broken
  have bad : ∀ y m5, f_X5_newLaw x = some (0, y) → f_X11_law m = tl2 (nI (8 * ib + L.nl)) m5 → FL ls ib x m y m5 → Bd y m5 → ∃ b x' m', f_X5_newLaw x = some (bi b, x') ∧ f_X11_law m = some ((), m') ∧ StL t n p ls ib b x m x' m' := by
    intro y m5 z1 z2 z3 z4
    rw [tl2_n win wix z4.f.1] at z2
    exact ⟨false, y, _, z1, z2, .inl ⟨(z3.tr (FL.lw hs (by omega))).tr (FL.lw hs (by omega)), .inr ⟨rfl, z4.c (S3.rf _) ((S0.s (by omega)).tr (S0.s (by omega)))⟩⟩⟩
  rcases d3 with ⟨k0, k1⟩ | ⟨rfl, k0, p2, s, k1, k2, k3, k4, ⟨k5, k6⟩, ⟨k7, k8⟩, ⟨k9, k10⟩, k11⟩
  · have mu : f_X11_must_ (wl 13) m4 = some ((), m4) := must_f (by
      rcases k1 with k1 | ⟨-, p2, -, k1⟩
      · exact k1.f.2.1
      · exact k1.bad k0) _
    rw [mu] at M
    dsimp only at M
    cases b with
    | false =>
      rcases k1 with k1 | k1
      · exact bad x4 m4 X M fl4 k1
      · cases k1.1
    | true =>
      rw [bT] at X
      unfold lX2 at X
      rcases k1 with k1 | ⟨-, p2, -, k1⟩
      · rw [show (413 : Int32) = nI 413 from rfl, tok_bad k1.look k1 (by omega) (by omega)] at X
        exact bad x4 m4 X M fl4 k1
      · obtain ⟨y, z1, z2, z3⟩ := k1.bd k0
        rw [show (413 : Int32) = nI 413 from rfl, tok_bad z1 z3 (by omega) (by omega)] at X
        exact bad y m4 X M (fl4.tr (FL.t z2 (TM.rf _))) z3
  rw [bT] at X
  unfold lX2 at X
  obtain ⟨b5, x5, m5, t1, t2, t3, t4, t5, t6, t7⟩ := tokW k2 (i := 13) (by omega)
  rw [show (413 : Int32) = nI (400 + 13) from rfl, t1] at X
  rw [t2] at M
  dsimp only [Option.bind] at X M
  have fl5 : FL ls ib x m x5 m5 := fl4.tr (FL.t t4 t5)
  rcases t7 with ⟨rfl, p3, t8, t9⟩ | ⟨rfl, t8⟩
  rotate_left
  · exact bad x5 m5 X M fl5 t8
  have gx : ∀ o k, ls + 10 ≤ o → o < ls + 19 → gI x5 o k = gI x3 o k := fun o k z1 z2 => (t4.1 o k (by omega) (by omega)).trans (k3.1 o k (by omega) (by omega) (by omega) (by omega))
  have hR5 : gR x5 5 1 = ls := (t4.2.1 5 1).trans ((k3.2.1 5 1).trans hR3)
  have h95 : gI x5 ls 9 = nI (A + (cX s).length) := (t4.1 _ _ (by omega) (by omega)).trans k6
  have h375 : gI m5 0 37 = nI (B + (cM s).length) := (t5.1 _ _ (by omega)).trans k8
  dsimp only [ltt] at X
  rw [bT, hR5, if_pos hlB, if_pos hlB, h95, show (1 : Int32) = nI 1 from rfl, put_X (s := L.nl) (w := 3) (cl := 1) _ ((gx _ _ (by omega) (by omega)).trans g10) ((gx _ _ (by omega) (by omega)).trans hrl) (by omega) (by omega) (by omega) (by omega) (by omega) (by omega)] at X
  dsimp only at X
  unfold tl2 at M
  rw [if_pos win, wix] at M
  dsimp only [ltt] at M
  rw [h375] at M
  obtain ⟨b, x', m', r1, r2, r3⟩ := law3 (t := t) (n := n) (x0 := x) (m0 := m) (p0 := p) (p3 := p3) (s := s) (w2 := nI (8 * ib + L.nl)) hP1 hs hA hB (by omega) ((fl5.tr (FL.sx (o := ls + 10 + 2) (k := L.nl * 3 + 1) (v := nI (A + (cX s).length)) (by omega) (by omega))).tr (FL.lw (o := 18) (v := nI (B + (cM s).length)) hs (by omega)))
    (((lx3.tr (LaX.of k3 (Nat.le_refl _))).tr (LaX.of (A' := A) (XFr.tt t4) (Nat.le_refl _))).tr (LaX.s (by omega))) (((LaM.s (by omega)).tr ((LaM.of k4 (Nat.le_refl _)).tr (LaM.of (B' := B) (MF.tt t5) (Nat.le_refl _)))).tr (LaM.s (by omega)))
    (t9.c (S3.s (by omega)) (S0.s (by omega))) k11 ⟨(ge_n (by omega)).trans ((gx _ _ (by omega) (by omega)).trans g12), by rw [show 3 * L.nl + 1 = L.nl * 3 + 1 by omega]; exact ge_s⟩ ((ge_n (by omega)).trans ((gx _ _ (by omega) (by omega)).trans g10))
    (fun k hk => (ge_n (by omega)).trans ((t4.1 _ _ (by omega) (by omega)).trans (k5 k hk))) ((ge_n (by omega)).trans h95)
    ⟨(ge_n (by omega)).trans ((t5.1 _ _ (by omega)).trans ((k4.1 _ _ (by unfold MFx; omega)).trans ge_s)), ge_s⟩ (fun k hk => by rw [ge_n (by omega), ge_n (by omega), t5.1 _ _ (by omega), t5.1 _ _ (by omega)]; exact k7 k hk) ((ge_n (by omega)).trans h375) (by omega) (by omega) win wix
  exact ⟨b, x', m', X.trans r1, M.trans r2, r3⟩
end Lv
