/-! ===== a law is read: brackets close ===== -/
section Cl
variable {t : Nat → Nat} {n ls ib p A B D q bs k cc : Nat} {pr : Int32} {x m x' m' x1 m1 x3 m3 : St}
theorem to409 {a e v c ph bg : Nat} {l : List Nat} {ob : Bool} (hT : TS t n p c a e l v x m) (hM : LSt ib B D q bs k ph bg pr ob m) (hk : k ≤ 5) (hD : D < 20) (hph : ph ≤ 2) (ha : ph = 2 ∨ ¬ ari c) (h : tst k = true → 1 ≤ ph ∧ c ≠ 414 ∧ c ≠ 415) : f_X11_goesOn m = f_X11_goesOn_409 (nI D) (nI k) m := by
  have g27 := hM.2.2.2.2.2.2.2.1
  cases ht : tst k with
  | false => rw [go_no hT hM hk hD hph ha (.inl ht), ht, e_X11_goesOn_272, bF, bF]
  | true =>
    obtain ⟨h1, h2, h3⟩ := h ht
    have w1 : f_X11_isWord 6385252 m = some (0, m) := hT.w0 15 (by omega) (by omega)
    have w2 : f_X11_isWord 28530 m = some (0, m) := hT.w0 14 (by omega) (by omega)
    rw [go_no hT hM hk hD hph ha (.inr (.inl (by omega))), ht, e_X11_goesOn_272, bT, w1]
    dsimp only [Option.bind]
    rw [if_pos rfl, w2]
    dsimp only
    rw [if_pos rfl, bT, if_pos (inb_nI hD (by omega)), ix_nI (by omega), g27, if_neg (nI_ne0 (by omega) (by omega))]
theorem goFail {p3 c3 ph3 j3 A1 B1 D1 q1 bs1 k1 p1 : Nat} {pr1 : Int32} {s2 : List Tok} {E2 : List (Int32 × Int32)} {W2 : List Nat} {b : Bool} {x5 m5 : St} (hld : isLand ls) (hi : ib < 2) (hB : B1 ≤ 1600) (h : PS t n ls ib p1 A1 B1 D1 q1 bs1 k1 pr1 p3 c3 ph3 j3 s2 E2 W2 x1 m1 x3 m3) (hgo : f_X11_goesOn m3 = some (bi b, m5)) (hm : TM m3 m5) (hx : TX x3 x5) (hbd : Bd x5 m5) (hA : A1 ≤ p1) : BadR t n p1 A1 ls ib false x1 m1 x5 := by
  have hls := land_o hld
  obtain ⟨⟨g1, g2⟩, g3, g4, g5, ⟨g6, g7⟩, ⟨g8, g8', g8''⟩, ⟨g9, g9'⟩, g10, g11⟩ := h
  have hbn := g2.bn
  refine ⟨m5, 2 + j3, by omega, fun N => ?_, (g3.tr (XFr.tt hx) (Nat.le_refl _)).fl hld (g4.tr (MF.tt hm) (Nat.le_refl _) (Nat.le_refl _) (Nat.le_refl _)) hi hB, hbd.f.1, A1 + (cX s2).length, (hx.1 _ _ (by omega) (by omega)).trans g7, by omega, .inl hbd⟩
  rw [show N + (2 + j3) = N + 1 + 1 + j3 by omega, g11, rd_go (N + 1) g5.2.2.2.2.2.1 hgo]
  cases b
  · rw [if_pos rfl, rd_0]
  · rw [if_neg nTF, if_neg hbd.f.1, rd_0]
theorem closeS {a e v c3 p1 A1 B1 k2 p3 ph3 j3 ph : Nat} {pr2 : Int32} {l W2 : List Nat} {s2 : List Tok} {E2 : List (Int32 × Int32)} (hC : Cx n ls ib p1 A1 B1 (D + 1) q q k2 cc x1) (hcc : cc ≤ 40) (h : PS t n ls ib p1 A1 B1 (D + 1) q q k2 pr2 p3 c3 ph3 j3 s2 E2 W2 x1 m1 x3 m3) (hT : TS t n p3 c3 a e l v x3 m3) (h409 : f_X11_goesOn m3 = f_X11_goesOn_409 (nI (D + 1)) (nI k2) m3) (hk2 : k2 = 2 ∨ k2 = 4 ∨ k2 = 5) (hc : c3 = if k2 = 5 then 93 else 41)
    (hW : ∀ w ∈ W2, 1 ≤ rk w ∧ w < 100) (hlen : 4 * W2.length ≤ (p3 - p1) + 24) (hD0 : gI m1 26 D = nI k ∧ gI m1 27 D = nI ph ∧ gI m1 28 D = nI 0 ∧ gI m1 29 D = pr ∧ gI m1 30 D = nI bs) (Q : List (Int32 × Int32)) (hQ : Q = if k2 = 4 then [(pr2, 0)] else []) (hroom : B1 + (cM s2).length < 1600) :
    ∃ m5, f_X11_goesOn m3 = some (1, m5) ∧ f_X6_skip x3 = some ((), sI x3 3 7 0) ∧ TX x3 (sI x3 3 7 0) ∧ p3 < e ∧ NX t n e (sI x3 3 7 0) m5 ∧ MF ib B1 D q m1 m5 ∧ CodeM m5 (1600 * ib + B1) (cM s2 ++ Q) ∧ LSt ib (B1 + (cM s2 ++ Q).length) D q bs k (if k2 = 5 then 2 else ph) 0 pr true m5 := by
  obtain ⟨m4, e1, e2, e3, e4, e5⟩ := joinS hC hcc h hT hW (by omega) (.inl rfl) hlen
  have hcE : E2.length ≤ (cM s2).length := by rw [h.nb]; omega
  obtain ⟨hld, hR, hn, hi, hD, hb, hA, hBq, hp, h4, hk⟩ := hC
  have hls := land_o hld
  obtain ⟨g38, g37, g44, g45, g47, g48, g26, g27, g28, g29, g30⟩ := e3
  have fr : ∀ o, 26 ≤ o → o ≤ 30 → gI m4 o D = gI m1 o D := fun o h1 h2 => (e4.1 o D (by unfold MFx; omega)).trans (h.2.2.1.1 o D (by unfold MFx; omega))
  have f14 : MF ib B1 D q m1 m4 := (h.2.2.1.w (Nat.le_refl _) (by omega) (Nat.le_refl _)).tr e4 (by omega) (by omega) (Nat.le_refl _)
  -- one frame less
  have st : ∃ m6, m6 = sI (sI m4 0 44 (nI (D + 1))) 0 45 (nI D) := ⟨_, rfl⟩
  obtain ⟨m6, hm6⟩ := st
  have f46 : ∀ Bx, MF ib Bx D q m4 m6 := fun Bx => by rw [hm6]; exact (MF.s (by unfold MFx; omega)).tr (MF.s (by unfold MFx; omega)) (Nat.le_refl _) (Nat.le_refl _) (Nat.le_refl _)
  have s46 : S0 m4 m6 := by rw [hm6]; exact (S0.s (by omega)).tr (S0.s (by omega))
  have g6 : ∀ o j, ¬ (o = 0 ∧ (j = 44 ∨ j = 45)) → gI m6 o j = gI m4 o j := fun o j hh => by rw [hm6]; exact (ge_n (by omega)).trans (ge_n (by omega))
  have L6 : LSt ib (B1 + (cM s2).length) D q bs k ph 0 pr true m6 := by
    refine ⟨(g6 _ _ (by omega)).trans g38, (g6 _ _ (by omega)).trans g37, ?_, ?_, (g6 _ _ (by omega)).trans g47, (g6 _ _ (by omega)).trans g48, (g6 _ _ (by omega)).trans ((fr _ (by omega) (by omega)).trans hD0.1), (g6 _ _ (by omega)).trans ((fr _ (by omega) (by omega)).trans hD0.2.1), (g6 _ _ (by omega)).trans ((fr _ (by omega) (by omega)).trans hD0.2.2.1), (g6 _ _ (by omega)).trans ((fr _ (by omega) (by omega)).trans hD0.2.2.2.1), (g6 _ _ (by omega)).trans ((fr _ (by omega) (by omega)).trans hD0.2.2.2.2)⟩
    · rw [hm6, ge_n (by omega), ge_s]
    · rw [hm6, ge_s]
  have c6 : CodeM m6 (1600 * ib + B1) (cM s2) := e5.kk (f46 _) (Nat.le_refl _)
  -- before the next word
  obtain ⟨m7, L7, f67, s67, c7, hgo⟩ : ∃ m7, LSt ib (B1 + (cM s2 ++ Q).length) D q bs k (if k2 = 5 then 2 else ph) 0 pr true m7 ∧ MF ib (B1 + (cM s2).length) D q m6 m7 ∧ S0 m6 m7 ∧ CodeM m7 (1600 * ib + B1) (cM s2 ++ Q) ∧ f_X11_goesOn m3 = (f_X11_ahead m7).bind fun q7 => some ((1 : Int32), q7.2) := by
    have base : f_X11_goesOn m3 = f_X11_goesOn_511 (nI (D + 1)) (nI k2) m3 := by
      rw [h409, e_X11_goesOn_409]
      rcases hk2 with rfl | rfl | rfl
      · rw [if_neg (by decide)] at hc
        have s41 : f_X11_isSign 41 m3 = some (1, m3) := hT.s1 41 (by omega) hc
        rw [if_pos (by decide), if_neg (by decide), if_neg (by decide), s41]; rfl
      · rw [if_neg (by decide)] at hc
        have s41 : f_X11_isSign 41 m3 = some (1, m3) := hT.s1 41 (by omega) hc
        rw [if_pos (by decide), if_neg (by decide), if_neg (by decide), s41]; rfl
      · rw [if_pos rfl] at hc
        have s93 : f_X11_isSign 93 m3 = some (1, m3) := hT.s1 93 (by omega) hc
        rw [if_pos (by decide), if_neg (by decide), if_pos (by decide), s93]; rfl
    rw [base, e_X11_goesOn_511, if_pos hT.le, show (1 : Int32) = nI 1 from rfl, e1]
    dsimp only [Option.bind, ltt]
    rw [show nI 1 = (1 : Int32) from rfl, g44, nI_pred, show gI (sI m4 0 44 (nI (D + 1))) 0 45 = nI (D + 1) from (ge_n (by omega)).trans g45, nI_pred, ← hm6]
    rcases hk2 with rfl | rfl | rfl
    · rw [if_neg (by decide)] at hQ ⊢
      rw [if_neg (by decide), hQ, List.append_nil]
      exact ⟨m6, L6, MF.rf _ _ _ _ _, S0.rf _, c6, by rw [if_neg (by decide)]⟩
    · rw [if_pos rfl] at hQ
      rw [if_neg (by decide), hQ]
      have e29 : gI m6 29 (D + 1) = pr2 := (g6 _ _ (by omega)).trans g29
      refine ⟨adM ib (B1 + (cM s2).length) pr2 0 m6, ?_, adM_f hi hroom, adM_0, ?_, ?_⟩
      · rw [List.length_append, List.length_singleton, ← Nat.add_assoc]; exact L6.ad
      · exact (c6.kk (adM_f hi hroom : MF ib (B1 + (cM s2).length) D q _ _) (Nat.le_refl _)).app (by rw [Nat.add_assoc]; exact adM_c)
      · rw [if_pos (by decide), if_pos (inb_nI (by omega) (by omega)), ix_nI (by omega), e29, add_M L6.1 L6.2.1 hi hroom]
        dsimp only
        rw [if_neg (by decide)]
    · rw [if_neg (by decide)] at hQ
      rw [if_pos rfl, hQ, List.append_nil]
      refine ⟨sI m6 27 D (nI 2), L6.s27, MF.s (by unfold MFx; omega), S0.s (by omega), c6.kk (MF.s (by unfold MFx; omega) : MF ib (B1 + (cM s2).length) D q _ _) (Nat.le_refl _), ?_⟩
      rw [if_neg (by decide), if_pos (by decide), L6.2.2.1, nI_pred, if_pos (inb_nI (by omega) (by omega)), ix_nI (by omega)]
      rfl
  have hT7 : TS t n p3 c3 a e l v x3 m7 := (e2.c (S3.rf _) s46).c (S3.rf _) s67
  obtain ⟨m8, a1, a2, a3, a4, a5, a6, a7⟩ := hT7.adv (by rw [hc]; split <;> omega)
  rw [a2] at hgo
  refine ⟨m8, hgo, a1, a3, a6, a7, ((f14.tr (f46 B1) (Nat.le_refl _) (Nat.le_refl _) (Nat.le_refl _)).tr f67 (by omega) (Nat.le_refl _) (Nat.le_refl _)).tr (MF.tt a5) (Nat.le_refl _) (Nat.le_refl _) (Nat.le_refl _), c7.kk (MF.tt a5 : MF ib (B1 + (cM s2 ++ Q).length) D q _ _) (Nat.le_refl _), L7.tt a5⟩
/-- the sign that a kind of bracket waits for is wanting -/
theorem closeF {a e v c3 p1 A1 B1 k2 p3 ph3 j3 : Nat} {pr2 : Int32} {l W2 : List Nat} {s2 : List Tok} {E2 : List (Int32 × Int32)} (hC : Cx n ls ib p1 A1 B1 (D + 1) q q k2 cc x1) (h : PS t n ls ib p1 A1 B1 (D + 1) q q k2 pr2 p3 c3 ph3 j3 s2 E2 W2 x1 m1 x3 m3) (hT : TS t n p3 c3 a e l v x3 m3) (h409 : f_X11_goesOn m3 = f_X11_goesOn_409 (nI (D + 1)) (nI k2) m3) (hk2 : k2 = 2 ∨ k2 = 3 ∨ k2 = 4 ∨ k2 = 5) (hc : c3 ≠ if k2 = 5 then 93 else if k2 = 3 then 44 else 41) :
    ∃ x5, f_X6_failHere 1 x3 = some (0, x5) ∧ BadR t n p1 A1 ls ib false x1 m1 x5 := by
  obtain ⟨x5, m5, a1, a2, a3, a4, a5, a6, -⟩ := hT.fail (k := 1) (by decide)
  have hbn := h.1.2.bn
  have hpp := h.1.1
  obtain ⟨hld, hR, hn, hi, hD, hb, hA, hBq, hp, h4, hk⟩ := hC
  refine ⟨x5, a1, goFail (b := false) hld hi (by omega) h ?_ a4 a3 a6 hA⟩
  rw [h409, e_X11_goesOn_409]
  have e511 : ∀ k, f_X11_goesOn_511 (nI (D + 1)) k m5 = some (0, m5) := fun k => by rw [e_X11_goesOn_511, if_neg a6.f.2.1]
  rcases hk2 with rfl | rfl | rfl | rfl
  · rw [if_neg (by decide), if_neg (by decide)] at hc
    have s41 : f_X11_isSign 41 m3 = some (0, m3) := hT.s0 41 (by omega) hc
    rw [if_pos (by decide), if_neg (by decide), if_neg (by decide), s41]; dsimp only [Option.bind]; rw [if_pos rfl, show (1 : Int32) = nI 1 from rfl, a2]; exact e511 _
  · rw [if_neg (by decide), if_pos rfl] at hc
    have s44 : f_X11_isSign 44 m3 = some (0, m3) := hT.s0 44 (by omega) hc
    rw [if_pos (by decide), if_pos (by decide), s44]; dsimp only [Option.bind]; rw [if_pos rfl, show (1 : Int32) = nI 1 from rfl, a2]; dsimp only; rw [if_neg a6.f.2.1]; rfl
  · rw [if_neg (by decide), if_neg (by decide)] at hc
    have s41 : f_X11_isSign 41 m3 = some (0, m3) := hT.s0 41 (by omega) hc
    rw [if_pos (by decide), if_neg (by decide), if_neg (by decide), s41]; dsimp only [Option.bind]; rw [if_pos rfl, show (1 : Int32) = nI 1 from rfl, a2]; exact e511 _
  · rw [if_pos rfl] at hc
    have s93 : f_X11_isSign 93 m3 = some (0, m3) := hT.s0 93 (by omega) hc
    rw [if_pos (by decide), if_neg (by decide), if_pos (by decide), s93]; dsimp only [Option.bind]; rw [if_pos rfl, show (1 : Int32) = nI 1 from rfl, a2]; exact e511 _
/-- the comma of a choice -/
theorem commaS {a e v c3 p1 A1 B1 p3 ph3 j3 : Nat} {pr2 : Int32} {l W2 : List Nat} {s2 : List Tok} {E2 : List (Int32 × Int32)} (hC : Cx n ls ib p1 A1 B1 (D + 1) q q 3 cc x1) (hcc : cc ≤ 40) (h : PS t n ls ib p1 A1 B1 (D + 1) q q 3 pr2 p3 c3 ph3 j3 s2 E2 W2 x1 m1 x3 m3) (hT : TS t n p3 c3 a e l v x3 m3) (h409 : f_X11_goesOn m3 = f_X11_goesOn_409 (nI (D + 1)) (nI 3) m3) (hc : c3 = 44)
    (hW : ∀ w ∈ W2, 1 ≤ rk w ∧ w < 100) (hlen : 4 * W2.length ≤ (p3 - p1) + 24) :
    ∃ m5, f_X11_goesOn m3 = some (1, m5) ∧ f_X6_skip x3 = some ((), sI x3 3 7 0) ∧ TX x3 (sI x3 3 7 0) ∧ p3 < e ∧ NX t n e (sI x3 3 7 0) m5 ∧ MF ib B1 (D + 1) q m1 m5 ∧ CodeM m5 (1600 * ib + B1) (cM s2) ∧ LSt ib (B1 + (cM s2).length) (D + 1) q q 4 ph3 0 pr2 false m5 := by
  obtain ⟨m4, e1, e2, e3, e4, e5⟩ := joinS hC hcc h hT hW (by omega) (.inl rfl) hlen
  have hcE : E2.length ≤ (cM s2).length := by rw [h.nb]; omega
  obtain ⟨hld, hR, hn, hi, hD, hb, hA, hBq, hp, h4, hk⟩ := hC
  obtain ⟨m8, a1, a2, a3, a4, a5, a6, a7⟩ := (e2.c (m' := sI m4 26 (D + 1) (nI 4)) (S3.rf _) (S0.s (by omega))).adv (by omega)
  have s44 : f_X11_isSign 44 m3 = some (1, m3) := hT.s1 44 (by omega) hc
  refine ⟨sI m8 0 48 (bi false), ?_, a1, a3, a6, a7.c (S3.rf _) (S0.s (by omega)), ?_, ?_, ?_⟩
  · rw [h409, e_X11_goesOn_409, if_pos (by decide), if_pos (by decide), s44]
    dsimp only [Option.bind]
    rw [if_neg (by decide), if_pos hT.le, show (1 : Int32) = nI 1 from rfl, e1]
    dsimp only [ltt]
    rw [if_pos (inb_nI (by omega) (by omega)), ix_nI (by omega), show (4 : Int32) = nI 4 from rfl, a2]
    rfl
  · exact (((h.2.2.1.tr e4 (by omega) (Nat.le_refl _) (Nat.le_refl _)).tr (MF.s (by unfold MFx; omega) : MF ib B1 (D + 1) q _ _) (Nat.le_refl _) (Nat.le_refl _) (Nat.le_refl _)).tr (MF.tt a5) (Nat.le_refl _) (Nat.le_refl _) (Nat.le_refl _)).tr (MF.s (by unfold MFx; omega)) (Nat.le_refl _) (Nat.le_refl _) (Nat.le_refl _)
  · exact ((e5.kk (MF.s (by unfold MFx; omega) : MF ib (B1 + (cM s2).length) (D + 1) q _ _) (Nat.le_refl _)).kk (MF.tt a5 : MF ib (B1 + (cM s2).length) (D + 1) q _ _) (Nat.le_refl _)).kk (MF.s (by unfold MFx; omega) : MF ib (B1 + (cM s2).length) (D + 1) q _ _) (Nat.le_refl _)
  · exact ((e3.s26 (b := 4)).tt a5).s48
theorem BadR.tok {b : Bool} {due : Nat} (hl : isLand ls) (hd : due < 500) (h3 : due ≠ 303) (h : BadR t n p A ls ib b x m x') : ∃ y, f_X5_token (nI due) x' = some (0, y) ∧ BadR t n p A ls ib false x m y := by
  obtain ⟨x1, e1, e2⟩ := h.lk hl
  refine ⟨x1, ?_, e2⟩
  rw [e_X5_token, e1]; dsimp only [Option.bind]; rw [if_neg (nI_303 hd h3), e2.here]; rfl
end Cl
