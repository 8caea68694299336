/-! ===== a law is read: choices; any piece of a product ===== -/
section Ch
variable {t : Nat → Nat} {n ls ib p A B D q bs k : Nat} {pr : Int32} {x m x' m' x1 m1 x3 m3 : St}
theorem opens_bad (k2 : Int32) (h : ¬ gI m 0 8 ≤ 0) : f_X11_opens k2 m = some ((), m) := by
  rw [e_X11_opens, e_X11_blame, if_neg h]
  dsimp only [Option.bind]
  rw [if_neg h]
  split <;> rfl
theorem choice_C {a e v c ph bg o : Nat} {l : List Nat} {u w : Int32} {rec : Int32 → St → Option (Int32 × St)} (hrec : D < 8 → SumC t n ls ib (D + 1) rec) (hbad : D < 8 → BadF t n ls ib (rec (nI (D + 1)))) (hC : Cx n ls ib p A B D q bs k 21 x) (h9 : gI x ls 9 = nI A) (hM : LSt ib B D q bs k ph bg pr false m) (hx : TX x x1) (hT : TS t n p c a e l v x1 m) (hc : c = 421 ∨ c = 422) (hop : f_X11_operand m = f_X11_operand_174 w (sI m 28 D (nI 0))) (ho : o = 10 ∨ o = 11) (hu : xo o = u) (hw : mo o = w) :
    Ctr t n ls ib p A B D q bs k pr (5 + 5 * D) 7 0 false (fun ph' _ => ph' = ph) ((f_X5_choice rec (nI D) u x1).bind fun q41 => if zok q41.1 = true then some (q41.1, q41.2) else none) x m := by
  obtain ⟨hld, hR, hn, hi, hD, hb, hA, hBq, hp, h4, hk⟩ := id hC
  have hls := land_o hld
  have hlB := landB_of hld
  have hbn := hT.nxc.bn
  have h48 : gI m 0 48 = 0 := hM.2.2.2.2.2.1
  have hM0 := hM.s28 (b := 0)
  have hT0 : TS t n p c a e l v x1 (sI m 28 D (nI 0)) := hT.c (S3.rf _) (S0.s (by omega))
  have f0 : ∀ D', D' ≤ D → MF ib B D' q m (sI m 28 D (nI 0)) := fun D' hD' => MF.s (by unfold MFx; omega)
  obtain ⟨ma, a1, a2, a3, a4, a5, a6, a7⟩ := hT0.adv (by omega)
  have hen := a7.2.1
  have hMa := hM0.tt a5
  have fa : ∀ D', D' ≤ D → MF ib B D' q m ma := fun D' hD' => (f0 D' hD').tr (MF.tt a5) (Nat.le_refl _) (Nat.le_refl _) (Nat.le_refl _)
  rw [e_X11_operand_174, a2] at hop
  dsimp only [Option.bind] at hop
  have g9 : gI (sI x1 3 7 0) ls 9 = nI A := (a3.1 _ _ (by omega) (by omega)).trans ((hx.1 _ _ (by omega) (by omega)).trans h9)
  have gR1 : gR (sI x1 3 7 0) 5 1 = ls := (a3.2.1 5 1).trans ((hx.2.1 5 1).trans hR)
  have hX1 : XFr ls A x (sI x1 3 7 0) := (XFr.tt hx).tr (XFr.tt a3) (Nat.le_refl _)
  have conv : ∀ {f : Option (Int32 × St)}, (∃ y, f = some (0, y) ∧ BadR t n p A ls ib false x m y) → Ctr t n ls ib p A B D q bs k pr (5 + 5 * D) 7 0 false (fun ph' _ => ph' = ph) (f.bind fun q41 => if zok q41.1 = true then some (q41.1, q41.2) else none) x m := by
    intro f ⟨y, y1, y2⟩
    rw [y1]
    exact badC ⟨y, rfl, y2⟩
  rw [e_X5_choice, a1]
  dsimp only [Option.bind]
  rcases a7.lk with ⟨x2, e1, e2, e3, e4⟩ | ⟨c2, a', e', l', v', x2, e1, e2, e3, hT2⟩
  · -- the text is broken behind it
    obtain ⟨b, sb⟩ := sign_any 40 ma
    rw [sb] at hop
    dsimp only at hop
    rw [e4.blame] at hop
    dsimp only at hop
    rw [opens_bad _ e4.f.2.1] at hop
    dsimp only at hop
    rw [if_neg e4.f.1] at hop
    have hop' : f_X11_operand m = some (bi false, ma) := by rw [hop]; cases b <;> rfl
    rw [e1]
    dsimp only
    rw [if_neg (by decide), e4.here]
    exact conv ⟨x2, rfl, opFail (b := false) (D := D) (B := B) (q := q) hld hi (by omega) h48 hop' (hX1.tr (XFr.tt e2) (Nat.le_refl _)) (fa D (Nat.le_refl _)) e4 ((e2.1 _ _ (by omega) (by omega)).trans g9) (by omega)⟩
  have hb2 := hT2.nxc.bn
  have g92 : gI x2 ls 9 = nI A := (e2.1 _ _ (by omega) (by omega)).trans g9
  have gR2 : gR x2 5 1 = ls := (e2.2.1 5 1).trans gR1
  have hX2 : XFr ls A x x2 := hX1.tr (XFr.tt e2) (Nat.le_refl _)
  rw [e1]
  dsimp only
  by_cases hc2 : c2 = 40
  rotate_left
  · -- no bracket
    obtain ⟨x5, m5, b1, b2, b3, b4, b5, b6, -⟩ := hT2.fail (k := 1) (by decide)
    have s40 : f_X11_isSign 40 ma = some (0, ma) := hT2.s0 40 (by omega) hc2
    rw [s40] at hop
    dsimp only at hop
    rw [if_pos rfl, show (1 : Int32) = nI 1 from rfl, b2] at hop
    dsimp only at hop
    rw [opens_bad _ b6.f.2.1] at hop
    dsimp only at hop
    rw [if_neg b6.f.1] at hop
    rw [if_neg (show ¬ nI c2 = (40 : Int32) from nI_ne (k := 40) hT2.cl (by omega) hc2), show (1 : Int32) = nI 1 from rfl, b1]
    exact conv ⟨x5, rfl, opFail (b := false) (D := D) (B := B) (q := q) hld hi (by omega) h48 hop (hX2.tr (XFr.tt b3) (Nat.le_refl _)) ((fa D (Nat.le_refl _)).tr (MF.tt b4) (Nat.le_refl _) (Nat.le_refl _) (Nat.le_refl _)) b6 ((b3.1 _ _ (by omega) (by omega)).trans g92) (by omega)⟩
  have s40 : f_X11_isSign 40 ma = some (1, ma) := hT2.s1 40 (by omega) hc2
  rw [s40] at hop
  dsimp only at hop
  rw [if_neg (by decide)] at hop
  rw [if_pos (by rw [hc2]; rfl)]
  by_cases hD8 : D < 8
  rotate_left
  · obtain ⟨x5, m5, b1, b2, b3, b4, b5, b6, -⟩ := hT2.fail (k := 5) (by decide)
    have hD' : D = 8 := by omega
    rw [e_X11_opens, hMa.2.2.2.1, if_pos (by rw [hD']; rfl), show (5 : Int32) = nI 5 from rfl, b2] at hop
    dsimp only [Option.bind] at hop
    rw [if_neg b6.f.2.1] at hop
    dsimp only at hop
    rw [if_neg b6.f.1] at hop
    rw [e_X5_bracket, if_neg (show ¬ nI D < (8 : Int32) from nI_nlt (b := 8) (by omega) (by omega)), show (5 : Int32) = nI 5 from rfl, b1]
    dsimp only [Option.bind]
    rw [if_pos (by decide)]
    dsimp only
    rw [if_pos rfl]
    exact conv ⟨x5, rfl, opFail (b := false) (D := D) (B := B) (q := q) hld hi (by omega) h48 hop (hX2.tr (XFr.tt b3) (Nat.le_refl _)) ((fa D (Nat.le_refl _)).tr (MF.tt b4) (Nat.le_refl _) (Nat.le_refl _) (Nat.le_refl _)) b6 ((b3.1 _ _ (by omega) (by omega)).trans g92) (by omega)⟩
  obtain ⟨m2, o1, o2, o3, o4, o5, o6, o7⟩ := opens_S (k2 := 3) hT2 (by omega) hMa hD8
  rw [show (3 : Int32) = nI 3 from rfl, o1] at hop
  dsimp only at hop
  have hen2 := o5.2.1
  have xs9 : gI (sI x2 3 7 0) ls 9 = nI A := (o3.1 _ _ (by omega) (by omega)).trans g92
  have xsR : gR (sI x2 3 7 0) 5 1 = ls := (o3.2.1 5 1).trans gR2
  have xsX : XFr ls A x (sI x2 3 7 0) := hX2.tr (XFr.tt o3) (Nat.le_refl _)
  rw [e_X5_bracket, if_pos (show nI D < (8 : Int32) from nI_lt (b := 8) hD8 (by omega)), o2]
  dsimp only [Option.bind]
  rw [if_neg (by decide), nI_1]
  by_cases hg : gI m2 0 8 = 0
  rotate_left
  · -- broken behind the bracket
    rw [if_neg hg] at hop
    have hB1 : BadR t n p A ls ib true x m (sI x2 3 7 0) := by
      refine ⟨sI m2 0 48 (bi false), 2, by omega, fun N => ?_, xsX.fl hld (((fa D (Nat.le_refl _)).tr o6 (Nat.le_refl _) (by omega) (Nat.le_refl _)).tr (MF.s (by unfold MFx; omega) : MF ib B D q _ _) (Nat.le_refl _) (Nat.le_refl _) (Nat.le_refl _)) hi (by omega), ?_, A, xs9, by omega, .inr ⟨rfl, e', o5.c (S3.rf _) (S0.s (by omega)), by omega, by omega⟩⟩
      · rw [show N + 2 = N + 1 + 1 from rfl, rd_op (b := false) (N + 1) h48 hop, if_neg hg, rd_0]
      · rw [ge_n (by omega)]; exact hg
    obtain ⟨y, y1, y2⟩ := hbad hD8 _ _ _ _ _ _ hB1
    rw [y1]
    exact conv ⟨y, rfl, y2⟩
  rw [if_pos hg, o7.2.2.1, nI_pred, if_pos (inb_nI (by omega) (by omega)), ix_nI (by omega)] at hop
  dsimp only [ltt] at hop
  -- the first sum
  have L2 : LSt ib B (D + 1) q q 3 0 1 w false (sI (sI m2 29 (D + 1) w) 0 48 (bi false)) := (o7.s29 (b := w)).s48
  have f2 : ∀ D', D' ≤ D → MF ib B D' q m (sI (sI m2 29 (D + 1) w) 0 48 (bi false)) := fun D' hD' => (((fa D' hD').tr o6 (Nat.le_refl _) (by omega) (Nat.le_refl _)).tr (MF.s (by unfold MFx; omega) : MF ib B D' q _ _) (Nat.le_refl _) (Nat.le_refl _) (Nat.le_refl _)).tr (MF.s (by unfold MFx; omega) : MF ib B D' q _ _) (Nat.le_refl _) (Nat.le_refl _) (Nat.le_refl _)
  have n2 : NX t n e' (sI x2 3 7 0) (sI (sI m2 29 (D + 1) w) 0 48 (bi false)) := o5.c (S3.rf _) ((S0.s (by omega)).tr (S0.s (by omega)))
  have hfl : BF ls ib x m (sI x2 3 7 0) (sI (sI m2 29 (D + 1) w) 0 48 (bi false)) := xsX.fl hld (f2 D (Nat.le_refl _)) hi (by omega)
  have hst : ∀ N, f_X11_reads_43 (N + 1) 1 m = f_X11_reads_43 N 1 (sI (sI m2 29 (D + 1) w) 0 48 (bi false)) := fun N => by rw [rd_op (b := false) N h48 hop, if_pos (by rw [ge_n (by omega)]; exact hg)]
  have cD : ∀ o', 26 ≤ o' → o' ≤ 30 → gI (sI (sI m2 29 (D + 1) w) 0 48 (bi false)) o' D = gI ma o' D := fun o' h1 h2 => (ge_n (by omega)).trans ((ge_n (by omega)).trans (o6.1 _ _ (by unfold MFx; omega)))
  obtain ⟨c3, n3⟩ : ∃ c, NXc t n e' c (sI x2 3 7 0) (sI (sI m2 29 (D + 1) w) 0 48 (bi false)) := by
    rcases NXc.of n2 with h | h
    · exact h
    · exact absurd ((ge_n (by omega)).trans ((ge_n (by omega)).trans hg)) h
  have hC1 : Cx n ls ib e' A B (D + 1) q q 3 13 (sI x2 3 7 0) := ⟨hld, xsR, hn, hi, by omega, Nat.le_refl _, by omega, by omega, by omega, by omega, by omega⟩
  obtain ⟨b4, x4, r1, r2⟩ := hrec hD8 e' c3 A B q q 3 w 0 1 _ _ ⟨n3, hC1, xs9, L2, .inl rfl, by omega, by omega, .inr (.inl rfl)⟩
  rw [r1]
  dsimp only
  rcases r2 with r2 | ⟨rfl, p4, c4, ph4, j4, s2, E2, W2, m4, r2, r3, ⟨r4, r4'⟩, r5, r6⟩
  · have r2' := r2.pre (p := p) (A := A) (j1 := 1) hfl (by omega) (by omega) hen2 (by omega) hst
    cases b4
    · rw [bF]; exact conv ⟨x4, rfl, r2'⟩
    · obtain ⟨y, t1, t2⟩ := r2'.tok (due := 44) hld (by omega) (by omega)
      rw [bT, show (44 : Int32) = nI 44 from rfl, t1]
      exact conv ⟨y, rfl, t2⟩
  rw [bT]
  obtain ⟨a5', e5, l5, v5, x5, k1, k2, k3⟩ := r2.lk hld
  have hL4 := k2.2.2.2.1
  have h409 := to409 k3 hL4 (by omega) (by omega) (by omega) (.inr r4') (fun z => by cases z)
  have hb4 := k2.1.2.bn
  have hp4 := k2.1.1
  have hl4 := k2.2.2.2.2.2.2.1
  have hj4 := k2.2.2.2.2.2.2.2.1
  by_cases hc4 : c4 = 44
  rotate_left
  · obtain ⟨x6, z1, z2⟩ := closeF hC1 k2 k3 h409 (.inr (.inl rfl)) (by rw [if_neg (by decide), if_pos rfl]; exact hc4)
    have z3 := z2.pre (p := p) (A := A) (j1 := 1) hfl (by omega) (by omega) hen2 (by omega) hst
    rw [show f_X5_token (44 : Int32) x4 = some (0, x6) from by rw [e_X5_token, k1]; dsimp only [Option.bind]; rw [if_neg (show ¬ nI c4 = (44 : Int32) from nI_ne (k := 44) k3.cl (by omega) hc4), z1]; rfl]
    exact conv ⟨x6, rfl, z3⟩
  obtain ⟨m6, z1, z2, z3, z4, z5, z6, z7, z8⟩ := commaS hC1 (by omega) k2 k3 h409 hc4 (fun w hw => by have := r5 w hw; omega) (by omega)
  rw [show f_X5_token (44 : Int32) x4 = some (1, sI x5 3 7 0) from by rw [e_X5_token, k1]; dsimp only [Option.bind]; rw [if_pos (by rw [hc4]; rfl), z2]]
  dsimp only
  rw [if_neg (by decide)]
  have hen5 := z5.2.1
  have y9 : gI (sI x5 3 7 0) ls 9 = nI (A + (cX s2).length) := (z3.1 _ _ (by omega) (by omega)).trans k2.2.2.2.2.1.2
  have yc : CodeX (sI x5 3 7 0) (ls + 19) A (cX s2) := fun i hi' => (z3.1 _ _ (by omega) (by omega)).trans (k2.2.2.2.2.1.1 i hi')
  have yX : XFr ls A x (sI x5 3 7 0) := (xsX.tr k2.2.1 (Nat.le_refl _)).tr (XFr.tt z3) (Nat.le_refl _)
  have yR : gR (sI x5 3 7 0) 5 1 = ls := (yX.2.1 5 1).trans hR
  have f6 : MF ib B D q m m6 := (f2 D (Nat.le_refl _)).tr z6 (Nat.le_refl _) (by omega) (Nat.le_refl _)
  have h448 : gI m4 0 48 = 1 := hL4.2.2.2.2.2.1
  have hst4 : ∀ N, f_X11_reads_43 (N + (j4 + 1)) 1 m = f_X11_reads_43 N 1 m4 := fun N => by rw [← Nat.add_assoc, hst, k2.2.2.2.2.2.2.2.2]
  by_cases hg6 : gI m6 0 8 = 0
  rotate_left
  · have hB1 : BadR t n p A ls ib true x m (sI x5 3 7 0) := by
      refine ⟨m6, 2 + (j4 + 1), by omega, fun N => ?_, yX.fl hld f6 hi (by omega), hg6, A + (cX s2).length, y9, by omega, .inr ⟨rfl, e5, z5, by omega, by omega⟩⟩
      rw [show N + (2 + (j4 + 1)) = N + 1 + 1 + (j4 + 1) by omega, hst4, rd_go (b := true) (N + 1) h448 z1, if_neg nTF, if_neg hg6, rd_0]
    obtain ⟨y, y1, y2⟩ := hbad hD8 _ _ _ _ _ _ hB1
    rw [y1]
    exact conv ⟨y, rfl, y2⟩
  -- the second sum
  have hst6 : ∀ N, f_X11_reads_43 (N + (j4 + 2)) 1 m = f_X11_reads_43 N 1 m6 := fun N => by rw [show N + (j4 + 2) = N + 1 + (j4 + 1) by omega, hst4, rd_go (b := true) N h448 z1, if_neg nTF, if_pos hg6]
  obtain ⟨c7, n7⟩ : ∃ c, NXc t n e5 c (sI x5 3 7 0) m6 := by
    rcases NXc.of z5 with h | h
    · exact h
    · exact absurd hg6 h
  have hC2 : Cx n ls ib e5 (A + (cX s2).length) (B + (cM s2).length) (D + 1) q q 4 13 (sI x5 3 7 0) := ⟨hld, yR, hn, hi, by omega, Nat.le_refl _, by omega, by omega, by omega, by omega, by omega⟩
  obtain ⟨b8, x8, q1, q2⟩ := hrec hD8 e5 c7 (A + (cX s2).length) (B + (cM s2).length) q q 4 w ph4 0 _ _ ⟨n7, hC2, y9, z8, .inl rfl, by omega, by omega, .inl rfl⟩
  rw [q1]
  dsimp only
  have hfl6 : BF ls ib x m (sI x5 3 7 0) m6 := yX.fl hld f6 hi (by omega)
  rcases q2 with q2 | ⟨rfl, p8, c8, ph8, j8, s3, E3, W3, m8, q2, q3, ⟨q4, q4'⟩, q5, q6⟩
  · have q2' := q2.pre (p := p) (A := A) (j1 := j4 + 2) hfl6 (by omega) (by omega) hen5 (by omega) hst6
    cases b8
    · rw [bF]; exact conv ⟨x8, rfl, q2'⟩
    · obtain ⟨y, t1, t2⟩ := q2'.tok (due := 41) hld (by omega) (by omega)
      rw [bT, show (41 : Int32) = nI 41 from rfl, t1]
      exact conv ⟨y, rfl, t2⟩
  rw [bT]
  obtain ⟨a9, e9, l9, v9, x9, g1, g2, g3⟩ := q2.lk hld
  have hL8 := g2.2.2.2.1
  have h409' := to409 g3 hL8 (by omega) (by omega) (by omega) (.inr q4') (fun z => by cases z)
  have hb8 := g2.1.2.bn
  have hp8 := g2.1.1
  have hl8 := g2.2.2.2.2.2.2.1
  have hj8 := g2.2.2.2.2.2.2.2.1
  by_cases hc8 : c8 = 41
  rotate_left
  · obtain ⟨x6, y1, y2⟩ := closeF hC2 g2 g3 h409' (.inr (.inr (.inl rfl))) (by rw [if_neg (by decide), if_neg (by decide)]; exact hc8)
    have y3 := y2.pre (p := p) (A := A) (j1 := j4 + 2) hfl6 (by omega) (by omega) hen5 (by omega) hst6
    rw [show f_X5_token (41 : Int32) x8 = some (0, x6) from by rw [e_X5_token, g1]; dsimp only [Option.bind]; rw [if_neg (show ¬ nI c8 = (41 : Int32) from nI_ne (k := 41) g3.cl (by omega) hc8), y1]; rfl]
    exact conv ⟨x6, rfl, y3⟩
  obtain ⟨m10, d1, d2, d3, d4, d5, d6, d7, d8⟩ := closeS (k := k) (ph := ph) (pr := pr) (bs := bs) hC2 (by omega) g2 g3 h409' (.inr (.inl rfl)) (by rw [if_neg (by decide)]; exact hc8) (fun w hw => by have := q5 w hw; omega) (by omega) ⟨(z6.1 _ _ (by unfold MFx; omega)).trans ((cD _ (by omega) (by omega)).trans hMa.2.2.2.2.2.2.1), (z6.1 _ _ (by unfold MFx; omega)).trans ((cD _ (by omega) (by omega)).trans hMa.2.2.2.2.2.2.2.1), (z6.1 _ _ (by unfold MFx; omega)).trans ((cD _ (by omega) (by omega)).trans hMa.2.2.2.2.2.2.2.2.1), (z6.1 _ _ (by unfold MFx; omega)).trans ((cD _ (by omega) (by omega)).trans hMa.2.2.2.2.2.2.2.2.2.1), (z6.1 _ _ (by unfold MFx; omega)).trans ((cD _ (by omega) (by omega)).trans hMa.2.2.2.2.2.2.2.2.2.2)⟩ [(w, 0)] (by rw [if_pos rfl]) (by omega)
  rw [if_neg (by decide)] at d8
  have hen9 := d5.2.1
  rw [show f_X5_token (41 : Int32) x8 = some (1, sI x9 3 7 0) from by rw [e_X5_token, g1]; dsimp only [Option.bind]; rw [if_pos (by rw [hc8]; rfl), d2]]
  dsimp only [ltt]
  have w9 : gI (sI x9 3 7 0) ls 9 = nI (A + (cX s2).length + (cX s3).length) := (d3.1 _ _ (by omega) (by omega)).trans g2.2.2.2.2.1.2
  have wX : XFr ls A x (sI x9 3 7 0) := (yX.tr g2.2.1 (by omega)).tr (XFr.tt d3) (Nat.le_refl _)
  have wR : gR (sI x9 3 7 0) 5 1 = ls := (wX.2.1 5 1).trans hR
  rw [if_neg (by decide), wR, if_pos hlB, add_X w9 (by omega)]
  dsimp only
  rw [if_neg (by decide)]
  have tX : tkX (4, o) = [u] := by show [xo o] = [u]; rw [hu]
  have tM : tkM (4, o) = [(w, 0)] := by show [(mo o, 0)] = [(w, 0)]; rw [hw]
  have cc1 : CodeX (sI x9 3 7 0) (ls + 19) A (cX s2 ++ cX s3) := ((yc.kk hld g2.2.1 (Nat.le_refl _)).app g2.2.2.2.2.1.1).kk hld (XFr.tt d3 : XFr ls (A + (cX s2 ++ cX s3).length) _ _) (Nat.le_refl _)
  have fin := endS (x := x) (m := m) (p := p) (A := A) (B := B) (D := D) (q := q) (bs := bs) (k := k) (pr := pr) (j1 := j8 + (j4 + 2)) (p3 := p8) (s := s2 ++ s3 ++ [(4, o)]) (E := cM s2 ++ (cM s3 ++ [(w, 0)])) (y := adX ls (A + (cX s2).length + (cX s3).length) u (sI x9 3 7 0)) hld hi (by omega) hA (by omega) (fun N => by rw [← Nat.add_assoc, hst6, g2.2.2.2.2.2.2.2.2]) hL8.2.2.2.2.2.1 d1 (wX.tr (adX_f hld) (by omega)) (by omega) d4 (d5.c (adX_3 hld) (S0.rf _)) (f6.tr d6 (by omega) (Nat.le_refl _) (Nat.le_refl _)) (by rw [List.length_append, ← Nat.add_assoc]; exact d8) (by rw [cX_app, cX_app, cX1, tX]; exact (cc1.kk hld (adX_f hld) (by rw [List.length_append]; omega)).app (by rw [List.length_append, ← Nat.add_assoc]; exact adX_c)) (by rw [cX_app, cX_app, cX1, tX, List.length_append, List.length_append]; show gI (adX _ _ _ _) ls 9 = _; rw [ge_s]; congr 1; simp only [List.length_singleton]; omega) ((z7.kk d6 (Nat.le_refl _)).app (by rw [Nat.add_assoc]; exact d7)) (by rw [cM_app, cM_app, cM1, tM, List.append_assoc]) (by rw [cX_app, cX_app, cX1, tX, List.length_append, List.length_append, List.length_singleton]; omega) (by rw [cM_app, cM_app, cM1, tM, List.length_append, List.length_append, List.length_singleton]; omega)
  refine ⟨true, _, rfl, ?_⟩
  rcases fin with fin | ⟨c', fin⟩
  · exact .inl fin
  · exact .inr ⟨rfl, e9, c', ph, _, _, _, [], m10, fin, Ex.bin (r3.w (by omega)) q3 (by omega) (by omega) (fun z => by omega) (fun z z' => by omega) (fun _ => ⟨rfl, rfl⟩), rfl, fun w hw => (by cases hw), by simp only [List.length_nil]; omega⟩
end Ch
