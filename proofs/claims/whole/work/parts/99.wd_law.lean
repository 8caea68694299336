/-! ===== a law is read: signs that join ===== -/
section Ar
variable {t : Nat → Nat} {n ls ib p A B D q bs k cc : Nat} {pr : Int32} {x m x' m' : St}
theorem PS.nb {p' c ph j : Nat} {s : List Tok} {E : List (Int32 × Int32)} {W : List Nat} (h : PS t n ls ib p A B D q bs k pr p' c ph j s E W x m x' m') : (cM s).length = E.length + W.length := by rw [h.2.2.2.2.2.1.2.2, List.length_append, pW_len]
/-- what waits and binds as strongly is put down -/
theorem joinS {a e v c p' ph j r : Nat} {l W : List Nat} {s : List Tok} {E : List (Int32 × Int32)} (hC : Cx n ls ib p A B D q bs k cc x) (hcc : cc ≤ 40) (h : PS t n ls ib p A B D q bs k pr p' c ph j s E W x m x' m') (hT : TS t n p' c a e l v x' m') (hW : ∀ w ∈ W, r ≤ rk w ∧ w < 100) (hr : r < 100) (hTp : TopR r bs q m) (hl : 4 * W.length ≤ (p' - p) + 24) :
    ∃ m1, f_X11_joins (nI r) m' = some ((), m1) ∧ TS t n p' c a e l v x' m1 ∧ LSt ib (B + (cM s).length) D q bs k ph 0 pr true m1 ∧ MF ib (B + E.length) D q m' m1 ∧ CodeM m1 (1600 * ib + B) (cM s) := by
  have hlen := h.nb
  obtain ⟨hld, hR, hn, hi, hD, hb, hA, hBq, hp, h4, hk⟩ := hC
  obtain ⟨⟨h1, h2⟩, h3, h4', h5, h6, ⟨h8, h8', h8''⟩, ⟨h9, h9'⟩, h10⟩ := h
  have hbn := h2.bn
  obtain ⟨m1, e1, e2, e3, e4, e5⟩ := joins_W hi (by omega) hb hr W m' (B + E.length) FU h5 h8' hW (hTp.cc h4' hb) (by omega) (by omega) (by rw [FU_eq]; omega)
  refine ⟨m1, by rw [e_X11_joins]; exact e1, hT.c (S3.rf _) e4, ?_, e3, ?_⟩
  · rw [hlen, ← Nat.add_assoc]; exact e2
  · rw [h8'']
    exact (h8.kk e3 (Nat.le_refl _)).app (by rw [Nat.add_assoc]; exact e5)
/-- .. one more waits, and the next word comes -/
theorem holdS {a e v c p' ph j w ph3 bg3 : Nat} {l W : List Nat} {s : List Tok} {E : List (Int32 × Int32)} {m1 m3 : St} (hC : Cx n ls ib p A B D q bs k cc x) (h : PS t n ls ib p A B D q bs k pr p' c ph j s E W x m x' m') (hc : c ≠ 302) (hT : TS t n p' c a e l v x' m3) (h1 : MF ib (B + E.length) D q m' m1) (hcode : CodeM m1 (1600 * ib + B) (cM s))
    (hM : LSt ib (B + (cM s).length) D (q + 1) bs k ph3 bg3 pr true m3) (h3 : MF ib (B + (cM s).length) D q m1 m3) (hw : gI m3 31 q = nI w) (he : f_X11_goesOn m' = (f_X11_ahead m3).bind fun q7 => ltt (sI q7.2 0 48 (0 : Int32)) fun σ8 => some ((1 : Int32), σ8)) :
    f_X6_skip x' = some ((), sI x' 3 7 0) ∧ p' < e ∧ (BadR t n p A ls ib true x m (sI x' 3 7 0) ∨ ∃ c2 m2, MI t n ls ib p A B D q bs k pr e c2 ph3 bg3 (j + 1) s [w] x m (sI x' 3 7 0) m2) := by
  have hlen := h.nb
  obtain ⟨hld, hR, hn, hi, hD, hb, hA, hBq, hp, h4, hk⟩ := hC
  have hls := land_o hld
  obtain ⟨⟨g1, g2⟩, g3, g4, g5, ⟨g6, g7⟩, ⟨g8, g8', g8''⟩, ⟨g9, g9'⟩, g10, g11⟩ := h
  have hbn := g2.bn
  obtain ⟨m4, a1, a2, a3, a4, a5, a6, a7⟩ := hT.adv hc
  rw [a2] at he
  dsimp only [Option.bind, ltt] at he
  have hfin : MF ib (B + E.length) D q m' (sI m4 0 48 0) := ((h1.tr h3 (by omega) (Nat.le_refl _) (Nat.le_refl _)).tr (MF.tt a5) (Nat.le_refl _) (Nat.le_refl _) (Nat.le_refl _)).tr (MF.s (by unfold MFx; omega)) (Nat.le_refl _) (Nat.le_refl _) (Nat.le_refl _)
  have hX : XFr ls A x (sI x' 3 7 0) := g3.tr (XFr.tt a3) (Nat.le_refl _)
  have hMf : MF ib B D q m (sI m4 0 48 0) := g4.tr hfin (by omega) (Nat.le_refl _) (Nat.le_refl _)
  have n4 : NX t n e (sI x' 3 7 0) (sI m4 0 48 0) := a7.c (S3.rf _) (S0.s (by omega))
  have hen := a7.2.1
  have h48 : gI m' 0 48 = 1 := g5.2.2.2.2.2.1
  have h9x : gI (sI x' 3 7 0) ls 9 = nI (A + (cX s).length) := (ge_n (by omega)).trans g7
  refine ⟨a1, a6, ?_⟩
  rcases NXc.of n4 with ⟨c2, n5⟩ | n5
  · right
    refine ⟨c2, sI m4 0 48 0, ⟨by omega, n5⟩, hX, hMf, ?_, ⟨fun i hi => (ge_n (by omega)).trans (g6 i hi), h9x⟩, ⟨?_, ?_⟩, ⟨by omega, by simp only [List.length_singleton]; omega⟩, by omega, fun N => ?_⟩
    · exact (hM.tt a5).s48 (b := false)
    · exact (hcode.kk h3 (Nat.le_refl _)).kk ((MF.tt a5 : MF ib (B + (cM s).length) D q m3 m4).tr (MF.s (by unfold MFx; omega)) (Nat.le_refl _) (Nat.le_refl _) (Nat.le_refl _)) (Nat.le_refl _)
    · refine ⟨?_, trivial⟩
      show gI (sI m4 0 48 0) 31 (q + 0) = nI w
      rw [ge_n (by omega), a5.1 31 _ (by omega)]; exact hw
    · rw [show N + (j + 1) = N + 1 + j by omega, g11, rd_go (b := true) N h48 he, if_neg nTF, if_pos n5.e8]
  · left
    refine ⟨sI m4 0 48 0, 1 + 1 + j, by omega, fun N => ?_, hX.fl hld hMf hi (by omega), n5, A + (cX s).length, h9x, by omega, .inr ⟨rfl, e, n4, by omega, by omega⟩⟩
    rw [show N + (1 + 1 + j) = N + 1 + 1 + j by omega, g11, rd_go (b := true) (N + 1) h48 he, if_neg nTF, if_neg n5, rd_0]
theorem ar_S {a e v c p' ph j : Nat} {l W : List Nat} {s : List Tok} {E : List (Int32 × Int32)} (hC : Cx n ls ib p A B D q bs k cc x) (hcc : cc ≤ 40) (h : PS t n ls ib p A B D q bs k pr p' c ph j s E W x m x' m') (hT : TS t n p' c a e l v x' m') (hW : ∀ w ∈ W, arR c ≤ rk w ∧ w < 100) (hTp : TopR (arR c) bs q m) (hl : 4 * W.length ≤ (p' - p) + 24) (hc : ari c) (hph : ph < 2) :
    f_X6_skip x' = some ((), sI x' 3 7 0) ∧ p' < e ∧ (BadR t n p A ls ib true x m (sI x' 3 7 0) ∨ ∃ c2 m2, MI t n ls ib p A B D q bs k pr e c2 ph 0 (j + 1) s [arO c] x m (sI x' 3 7 0) m2) := by
  obtain ⟨m1, e1, e2, e3, e4, e5⟩ := joinS hC hcc h hT hW (by unfold arR; split <;> omega) hTp hl
  have hq : q < 500 := by
    have := hC.2.2
    have := h.1.2.bn
    have := h.1.1
    omega
  refine holdS hC h (by unfold ari at hc; omega) (e2.c (S3.rf _) hoM_0) e4 e5 e3.ho hoM_f hoM_q ?_
  rw [go_ar hT h.2.2.2.1 hC.2.2.2.2.2.2.2.2.2.2 (by have := hC.2.2; omega) hph hc, e_X11_goesOn_99, e1]
  dsimp only [Option.bind]
  rcases hc with rfl | rfl | rfl | rfl | rfl
  · have s43 : f_X11_isSign 43 m1 = some (1, m1) := e2.s1 43 (by omega) rfl
    rw [s43]; dsimp only; rw [if_neg (by decide), show (10 : Int32) = nI (arO 43) from rfl, hold_M e3.2.2.2.2.1 hq]
  · have s43 : f_X11_isSign 43 m1 = some (0, m1) := e2.s0 43 (by omega) (by omega)
    have s45 : f_X11_isSign 45 m1 = some (1, m1) := e2.s1 45 (by omega) rfl
    rw [s43]; dsimp only; rw [if_pos rfl, s45]; dsimp only; rw [if_neg (by decide), show (11 : Int32) = nI (arO 45) from rfl, hold_M e3.2.2.2.2.1 hq]
  · have s43 : f_X11_isSign 43 m1 = some (0, m1) := e2.s0 43 (by omega) (by omega)
    have s45 : f_X11_isSign 45 m1 = some (0, m1) := e2.s0 45 (by omega) (by omega)
    have s42 : f_X11_isSign 42 m1 = some (1, m1) := e2.s1 42 (by omega) rfl
    rw [s43]; dsimp only; rw [if_pos rfl, s45]; dsimp only; rw [if_pos rfl, s42]; dsimp only; rw [if_neg (by decide), show (12 : Int32) = nI (arO 42) from rfl, hold_M e3.2.2.2.2.1 hq]
  · have s43 : f_X11_isSign 43 m1 = some (0, m1) := e2.s0 43 (by omega) (by omega)
    have s45 : f_X11_isSign 45 m1 = some (0, m1) := e2.s0 45 (by omega) (by omega)
    have s42 : f_X11_isSign 42 m1 = some (0, m1) := e2.s0 42 (by omega) (by omega)
    have s47 : f_X11_isSign 47 m1 = some (1, m1) := e2.s1 47 (by omega) rfl
    rw [s43]; dsimp only; rw [if_pos rfl, s45]; dsimp only; rw [if_pos rfl, s42]; dsimp only; rw [if_pos rfl, s47]; dsimp only; rw [if_neg (by decide), show (13 : Int32) = nI (arO 47) from rfl, hold_M e3.2.2.2.2.1 hq]
  · have s43 : f_X11_isSign 43 m1 = some (0, m1) := e2.s0 43 (by omega) (by omega)
    have s45 : f_X11_isSign 45 m1 = some (0, m1) := e2.s0 45 (by omega) (by omega)
    have s42 : f_X11_isSign 42 m1 = some (0, m1) := e2.s0 42 (by omega) (by omega)
    have s47 : f_X11_isSign 47 m1 = some (0, m1) := e2.s0 47 (by omega) (by omega)
    rw [s43]; dsimp only; rw [if_pos rfl, s45]; dsimp only; rw [if_pos rfl, s42]; dsimp only; rw [if_pos rfl, s47]; dsimp only; rw [if_pos rfl, show (14 : Int32) = nI (arO 37) from rfl, hold_M e3.2.2.2.2.1 hq]
theorem cm_S {a e v c p' ph j : Nat} {l W : List Nat} {s : List Tok} {E : List (Int32 × Int32)} (hC : Cx n ls ib p A B D q bs k cc x) (hcc : cc ≤ 40) (h : PS t n ls ib p A B D q bs k pr p' c ph j s E W x m x' m') (hT : TS t n p' c a e l v x' m') (hW : ∀ w ∈ W, 5 ≤ rk w ∧ w < 100) (hTp : TopR 5 bs q m) (hl : 4 * W.length ≤ (p' - p) + 24) (hc : cmp3 c) (hph : ph = 0) (ht : tst k = true) :
    f_X6_skip x' = some ((), sI x' 3 7 0) ∧ p' < e ∧ (BadR t n p A ls ib true x m (sI x' 3 7 0) ∨ ∃ c2 m2, MI t n ls ib p A B D q bs k pr e c2 1 0 (j + 1) s [cmO c] x m (sI x' 3 7 0) m2) := by
  obtain ⟨m1, e1, e2, e3, e4, e5⟩ := joinS hC hcc h hT hW (by omega) hTp hl
  have hq : q < 500 := by
    have := hC.2.2
    have := h.1.2.bn
    have := h.1.1
    omega
  have hD : D < 20 := by have := hC.2.2; omega
  refine holdS hC h (by unfold cmp3 at hc; omega) ((e2.c (S3.rf _) hoM_0).c (S3.rf _) (S0.s (by omega))) e4 e5 (e3.ho.s27 (b := 1)) (hoM_f.tr (MF.s (by unfold MFx; omega)) (Nat.le_refl _) (Nat.le_refl _) (Nat.le_refl _)) ((ge_n (by omega)).trans hoM_q) ?_
  rw [go_cm hT h.2.2.2.1 hC.2.2.2.2.2.2.2.2.2.2 hD hph ht hc, e_X11_goesOn_215, show (5 : Int32) = nI 5 from rfl, e1]
  dsimp only [Option.bind]
  rcases hc with rfl | rfl | rfl
  · have s60 : f_X11_isSign 60 m1 = some (1, m1) := e2.s1 60 (by omega) rfl
    rw [s60]; dsimp only; rw [if_neg (by decide), show (17 : Int32) = nI (cmO 60) from rfl, hold_M e3.2.2.2.2.1 hq]; dsimp only [ltt]; rw [if_pos (inb_nI hD (by omega)), ix_nI (by omega)]; rfl
  · have s60 : f_X11_isSign 60 m1 = some (0, m1) := e2.s0 60 (by omega) (by omega)
    have s62 : f_X11_isSign 62 m1 = some (1, m1) := e2.s1 62 (by omega) rfl
    rw [s60]; dsimp only; rw [if_pos rfl, s62]; dsimp only; rw [if_neg (by decide), show (18 : Int32) = nI (cmO 62) from rfl, hold_M e3.2.2.2.2.1 hq]; dsimp only [ltt]; rw [if_pos (inb_nI hD (by omega)), ix_nI (by omega)]; rfl
  · have s60 : f_X11_isSign 60 m1 = some (0, m1) := e2.s0 60 (by omega) (by omega)
    have s62 : f_X11_isSign 62 m1 = some (0, m1) := e2.s0 62 (by omega) (by omega)
    rw [s60]; dsimp only; rw [if_pos rfl, s62]; dsimp only; rw [if_pos rfl, show (19 : Int32) = nI (cmO 61) from rfl, hold_M e3.2.2.2.2.1 hq]; dsimp only [ltt]; rw [if_pos (inb_nI hD (by omega)), ix_nI (by omega)]; rfl
/-- and, or -/
theorem an_S {a e v c p' ph j : Nat} {l W : List Nat} {s : List Tok} {E : List (Int32 × Int32)} (hC : Cx n ls ib p A B D q bs k cc x) (hcc : cc ≤ 40) (h : PS t n ls ib p A B D q bs k pr p' c ph j s E W x m x' m') (hT : TS t n p' c a e l v x' m') (hW : ∀ w ∈ W, (if c = 415 then 2 else 1) ≤ rk w ∧ w < 100) (hTp : TopR (if c = 415 then 2 else 1) bs q m) (hl : 4 * W.length ≤ (p' - p) + 24) (hc : c = 415 ∨ c = 414) (hph : 1 ≤ ph ∧ ph ≤ 2) (ht : tst k = true) :
    f_X6_skip x' = some ((), sI x' 3 7 0) ∧ p' < e ∧ (BadR t n p A ls ib true x m (sI x' 3 7 0) ∨ ∃ c2 m2, MI t n ls ib p A B D q bs k pr e c2 0 1 (j + 1) s [if c = 415 then 20 else 21] x m (sI x' 3 7 0) m2) := by
  obtain ⟨m1, e1, e2, e3, e4, e5⟩ := joinS hC hcc h hT hW (by split <;> omega) hTp hl
  have hq : q < 500 := by
    have := hC.2.2
    have := h.1.2.bn
    have := h.1.1
    omega
  have hD : D < 20 := by have := hC.2.2; omega
  refine holdS hC h (by omega) (((e2.c (S3.rf _) hoM_0).c (S3.rf _) (S0.s (by omega))).c (S3.rf _) (S0.s (by omega))) e4 e5 ((e3.ho.s27 (b := 0)).s28 (b := 1)) ((hoM_f.tr (MF.s (by unfold MFx; omega)) (Nat.le_refl _) (Nat.le_refl _) (Nat.le_refl _)).tr (MF.s (by unfold MFx; omega)) (Nat.le_refl _) (Nat.le_refl _) (Nat.le_refl _)) ((ge_n (by omega)).trans ((ge_n (by omega)).trans hoM_q)) ?_
  have hph' : ¬ gI m' 27 D = 0 := by rw [h.2.2.2.1.2.2.2.2.2.2.2.1]; exact nI_ne0 (by omega) (by omega)
  rw [go_no hT h.2.2.2.1 hC.2.2.2.2.2.2.2.2.2.2 hD hph.2 (.inr (by unfold ari; omega)) (.inr (.inl (by omega))), ht, e_X11_goesOn_272, bT]
  rcases hc with rfl | rfl
  · have w1 : f_X11_isWord 6385252 m' = some (1, m') := hT.w1 15 (by omega) rfl
    rw [w1]; dsimp only [Option.bind]; rw [if_neg (by decide), if_pos (inb_nI hD (by omega)), ix_nI (by omega), if_neg hph', e_X11_goesOn_314, if_pos hT.le, w1]
    dsimp only [Option.bind]; rw [if_neg (by decide), show (2 : Int32) = nI (if (415 : Nat) = 415 then 2 else 1) from rfl, e1]
    dsimp only; rw [if_neg (by decide), show (20 : Int32) = nI (if (415 : Nat) = 415 then 20 else 21) from rfl, hold_M e3.2.2.2.2.1 hq]; dsimp only [ltt]; rw [if_pos (inb_nI hD (by omega)), ix_nI (by omega), if_pos (inb_nI hD (by omega))]; rfl
  · have w0 : f_X11_isWord 6385252 m' = some (0, m') := hT.w0 15 (by omega) (by omega)
    have w1 : f_X11_isWord 28530 m' = some (1, m') := hT.w1 14 (by omega) rfl
    rw [w0]; dsimp only [Option.bind]; rw [if_pos rfl, w1]; dsimp only; rw [if_neg (by decide), if_pos (inb_nI hD (by omega)), ix_nI (by omega), if_neg hph', e_X11_goesOn_314, if_pos hT.le, w0]
    dsimp only [Option.bind]; rw [if_pos rfl, show (1 : Int32) = nI (if (414 : Nat) = 415 then 2 else 1) from rfl, e1]
    dsimp only; rw [if_pos rfl, show (21 : Int32) = nI (if (414 : Nat) = 415 then 20 else 21) from rfl, hold_M e3.2.2.2.2.1 hq]; dsimp only [ltt]; rw [if_pos (inb_nI hD (by omega)), ix_nI (by omega), if_pos (inb_nI hD (by omega))]; rfl
end Ar
