/-! ===== a law is read: comparisons ===== -/
/-- behind a comparison's sign, here -/
noncomputable def cmT (x1 s0 : Int32) (σ : St) : Option (Int32 × St) := if s0 = 0 then some ((0 : Int32), σ) else ((f_X5_sum 24 x1 σ).bind fun q1 => if q1.1 = 0 then some ((0 : Int32), q1.2) else (ltt (gR q1.2 5 1) fun g2 => if landB g2 = true then ((f_X4_addCode g2 s0 q1.2).bind fun q3 => if q3.1 = 0 then some ((0 : Int32), q3.2) else some ((1 : Int32), q3.2)) else none))
/-- a comparison, here -/
noncomputable def cmpF (x1 : Int32) (σ : St) : Option (Int32 × St) := (f_X5_sum 24 x1 σ).bind fun q => if q.1 = 0 then some ((0 : Int32), q.2) else ((f_X5_comparisonSign q.2).bind fun q1 => cmT x1 q1.1 q1.2)
theorem cmT0 (x1 : Int32) (σ : St) : cmT x1 0 σ = some (0, σ) := by unfold cmT; rw [if_pos rfl]
section Cp
variable {t : Nat → Nat} {n ls ib p A B D q bs k : Nat} {pr : Int32} {x m x' m' x1 m1 x3 m3 : St}
/-- behind the first sum of a test no comparison -/
theorem noCmp {a e v c p3 ph j : Nat} {l W : List Nat} {s : List Tok} {E : List (Int32 × Int32)} {cc : Nat} (hC : Cx n ls ib p A B D q bs k cc x) (h : PS t n ls ib p A B D q bs k pr p3 c ph j s E W x m x3 m3) (hT : TS t n p3 c a e l v x3 m3) (hph : ph = 0) (ht : tst k = true) (hc : ¬ ari c) (hc' : ¬ cmp3 c) : ∃ x5, f_X6_failHere 1 x3 = some (0, x5) ∧ BadR t n p A ls ib false x m x5 := by
  obtain ⟨x5, m5, a1, a2, a3, a4, a5, a6, -⟩ := hT.fail (k := 1) (by decide)
  have hbn := h.1.2.bn
  have hpp := h.1.1
  obtain ⟨hld, hR, hn, hi, hD, hb, hA, hBq, hp, h4, hk⟩ := hC
  have hM := h.2.2.2.1
  have g27 := hM.2.2.2.2.2.2.2.1
  refine ⟨x5, a1, goFail (b := false) hld hi (by omega) h ?_ a4 a3 a6 hA⟩
  have a2' : f_X11_blame 1 (gI m3 0 4) m3 = some ((), m5) := a2
  have e511 : ∀ k', f_X11_goesOn_511 (nI D) k' m5 = some (0, m5) := fun k' => by rw [e_X11_goesOn_511, if_neg a6.f.2.1]
  have e314 : f_X11_goesOn_314 (nI D) m5 = some (0, m5) := by rw [e_X11_goesOn_314, if_neg a6.f.2.1]
  have hk15 : k = 1 ∨ k = 5 := by
    unfold tst at ht
    simp only [Bool.or_eq_true, decide_eq_true_eq] at ht
    exact ht
  have e409 : f_X11_goesOn_409 (nI D) (nI k) m5 = some (0, m5) := by
    rw [e_X11_goesOn_409]
    rcases hk15 with rfl | rfl
    · rw [if_neg (by decide), if_neg a6.f.1]
    · obtain ⟨b, sb⟩ := sign_any 93 m5
      rw [if_pos (by decide), if_neg (by decide), if_pos (by decide), sb]
      dsimp only [Option.bind]
      rw [a6.blame]
      dsimp only
      rw [e511]; split <;> rfl
  rw [go_no hT hM hk (by omega) (by omega) (.inr hc) (.inr (.inr hc')), ht, e_X11_goesOn_272, bT]
  by_cases c15 : c = 415
  · have w1 : f_X11_isWord 6385252 m3 = some (1, m3) := hT.w1 15 (by omega) c15
    rw [w1]; dsimp only [Option.bind]
    rw [if_neg (by decide), if_pos (inb_nI (by omega) (by omega)), ix_nI (by omega), g27, hph, if_pos (show nI 0 = 0 from rfl), a2']
    exact e314
  have w1 : f_X11_isWord 6385252 m3 = some (0, m3) := hT.w0 15 (by omega) c15
  rw [w1]; dsimp only [Option.bind]
  rw [if_pos rfl]
  by_cases c14 : c = 414
  · have w2 : f_X11_isWord 28530 m3 = some (1, m3) := hT.w1 14 (by omega) c14
    rw [w2]; dsimp only
    rw [if_neg (by decide), if_pos (inb_nI (by omega) (by omega)), ix_nI (by omega), g27, hph, if_pos (show nI 0 = 0 from rfl), a2']
    exact e314
  have w2 : f_X11_isWord 28530 m3 = some (0, m3) := hT.w0 14 (by omega) c14
  rw [w2]; dsimp only
  rw [if_pos rfl, bT, if_pos (inb_nI (by omega) (by omega)), ix_nI (by omega), g27, hph, if_pos (show nI 0 = 0 from rfl), a2']
  exact e409
/-- what is broken stays so over a word that is passed over -/
theorem BadR.sk {y : St} (hl : isLand ls) (h : BadR t n p A ls ib false x m y) : BadR t n p A ls ib false x m (sI y 3 7 0) := by
  have hls := land_o hl
  obtain ⟨m', j, h1, h2, h3, h4, A', h5, h6, h7 | h7⟩ := h
  · obtain ⟨k, g1, g2, g3, g4⟩ := h7
    exact ⟨m', j, h1, h2, h3.tr (BF.tt (TX.s3 (by decide)) (TM.rf _)), h4, A', (ge_n (by omega)).trans h5, h6, .inl ⟨k, g1, (ge_n (by decide)).trans g2, g3, (ge_n (by decide)).trans g4⟩⟩
  · cases h7.1
theorem cmp_C {c bg : Nat} (h : PreA t n ls ib p c A B D q bs k pr 0 bg 4 9 x m) (ht : tst k = true) : Ctr t n ls ib p A B D q bs k pr (2 + 5 * D) 4 12 true (fun ph' c' => ph' = 1 ∧ ¬ ari c') (cmpF (nI D) x) x m := by
  obtain ⟨hN, hC, h9, hM, hTp, hph, hbg, hf⟩ := h
  obtain ⟨hld, hR, hn, hi, hD, hb, hA, hBq, hp, h4, hk⟩ := id hC
  have hS : SumC t n ls ib D (f_X5_sum 24) := sum_C hld 24 D (by omega) hD
  have hF : BadF t n ls ib (f_X5_sum 24 (nI D)) := sum_F hld (nI D) 23
  obtain ⟨b1, x1, e1, e2⟩ := hS p c A B q bs k pr 0 bg x m ⟨hN, ⟨hld, hR, hn, hi, hD, hb, hA, hBq, hp, by omega, hk⟩, h9, hM, hTp.le (by omega), hph, hbg, hf⟩
  have X : cmpF (nI D) x = if bi b1 = 0 then some ((0 : Int32), x1) else ((f_X5_comparisonSign x1).bind fun q1 => cmT (nI D) q1.1 q1.2) := by
    unfold cmpF
    rw [e1]
    rfl
  rcases e2 with e2 | ⟨rfl, p', c', ph', j, s, E, W, m', z1, z2, ⟨z3, z3'⟩, z4, z5⟩
  · cases b1
    · rw [if_pos (show bi false = 0 from rfl)] at X
      exact badC ⟨x1, X, e2⟩
    · obtain ⟨y, y1, y2⟩ := e2.lk hld
      have sg : f_X5_comparisonSign x1 = some (0, sI y 3 7 0) := by
        rw [e_X5_comparisonSign, y1]
        dsimp only [Option.bind]
        rw [if_neg (by decide), if_neg (by decide), if_neg (by decide), y2.here]
        rfl
      rw [if_neg (show ¬ bi true = 0 by decide), sg] at X
      dsimp only [Option.bind] at X
      rw [cmT0] at X
      exact badC ⟨_, X, y2.sk hld⟩
  rw [if_neg (show ¬ bi true = 0 by decide)] at X
  obtain ⟨a, e, l, v, x2, k1, k2, hT⟩ := z1.lk hld
  have hcl := hT.cl
  have go : ∀ (o : Nat) (u : Int32), u ≠ 0 → cmp3 c' → mo o = nI (cmO c') → xo o = u → 2 ≤ o → o < 5 → Ctr t n ls ib p A B D q bs k pr (2 + 5 * D) 4 12 true (fun ph' c' => ph' = 1 ∧ ¬ ari c') (cmT (nI D) u (sI x2 3 7 0)) x m := by
    intro o u hu0 hc ho hu ho2 ho5
    have hw4 : rk (cmO c') = 4 ∧ cmO c' < 100 := by
      rcases hc with rfl | rfl | rfl
      · exact ⟨rfl, by decide⟩
      · exact ⟨rfl, by decide⟩
      · exact ⟨rfl, by decide⟩
    obtain ⟨g1, g2, g3⟩ := cm_S hC (by omega) k2 hT z4 (hTp.le (by omega)) (by omega) hc z3 ht
    unfold cmT
    rw [if_neg hu0]
    rcases g3 with g3 | ⟨c2, m2, g3⟩
    · obtain ⟨y, y1, y2⟩ := hF _ _ _ _ _ _ g3
      rw [y1]
      exact badC ⟨y, rfl, y2⟩
    · obtain ⟨q1, q2, q3, q4⟩ := g3.pre (r := 5) (cc' := 13) hC hw4.2 (by omega) (by omega)
      have sub := hS e c2 _ _ _ _ _ _ 1 0 (sI x2 3 7 0) m2 ⟨g3.1.2, q1, q2, q3, q4, by omega, by omega, .inl rfl⟩
      obtain ⟨b, y, w1, w2⟩ := binS (r := 4) (wc := 12) (H := 2 + 5 * D) (ty' := true) (K0 := fun y => some ((0 : Int32), y)) (K1 := fun y => some ((1 : Int32), y)) hC g3 sub (z2.w (by omega)) (by omega) (by omega) hu ⟨ho, hw4.2, by omega⟩ (by omega) (by omega) (fun z => by omega) (fun z z' => ⟨rfl, rfl⟩) (fun z => by omega)
      refine ⟨b, y, ?_, w2.imp id (fun z => ⟨z.1, ?_⟩)⟩
      · refine Eq.trans w1 ?_
        cases b
        · rw [if_neg nFT]; rfl
        · rw [if_pos rfl]; rfl
      · obtain ⟨-, p2, c3, ph3, j3, s3, E3, W3, m3, -, z⟩ := z
        exact ⟨p2, c3, ph3, j3, s3, E3, W3, m3, z⟩
  have sg := e_X5_comparisonSign x1
  rw [k1] at sg
  dsimp only [Option.bind] at sg
  by_cases c60 : c' = 60
  · rw [if_pos (show nI c' = (60 : Int32) by rw [c60]; rfl)] at sg
    have sg' : f_X5_comparisonSign x1 = some (-9, sI x2 3 7 0) := sg
    rw [sg'] at X
    dsimp only [Option.bind] at X
    rw [X]
    exact go 2 _ (by decide) (by unfold cmp3; omega) (by rw [c60]; rfl) rfl (by omega) (by omega)
  rw [if_neg (show ¬ nI c' = (60 : Int32) from nI_ne (k := 60) hcl (by omega) c60)] at sg
  by_cases c61 : c' = 61
  · rw [if_pos (show nI c' = (61 : Int32) by rw [c61]; rfl)] at sg
    have sg' : f_X5_comparisonSign x1 = some (-11, sI x2 3 7 0) := sg
    rw [sg'] at X
    dsimp only [Option.bind] at X
    rw [X]
    exact go 4 _ (by decide) (by unfold cmp3; omega) (by rw [c61]; rfl) rfl (by omega) (by omega)
  rw [if_neg (show ¬ nI c' = (61 : Int32) from nI_ne (k := 61) hcl (by omega) c61)] at sg
  by_cases c62 : c' = 62
  · rw [if_pos (show nI c' = (62 : Int32) by rw [c62]; rfl)] at sg
    have sg' : f_X5_comparisonSign x1 = some (-10, sI x2 3 7 0) := sg
    rw [sg'] at X
    dsimp only [Option.bind] at X
    rw [X]
    exact go 3 _ (by decide) (by unfold cmp3; omega) (by rw [c62]; rfl) rfl (by omega) (by omega)
  rw [if_neg (show ¬ nI c' = (62 : Int32) from nI_ne (k := 62) hcl (by omega) c62)] at sg
  obtain ⟨x5, f1, f2⟩ := noCmp hC k2 hT z3 ht z3' (by unfold cmp3; omega)
  rw [f1] at sg
  have sg' : f_X5_comparisonSign x1 = some (0, sI x5 3 7 0) := sg
  rw [sg'] at X
  dsimp only [Option.bind] at X
  rw [cmT0] at X
  exact badC ⟨_, X, f2.sk hld⟩
theorem cmp_F (hld : isLand ls) (d : Int32) : BadF t n ls ib (cmpF d) := by
  intro p A b x m x' h
  obtain ⟨y, e1, e2⟩ := sum_F hld d 23 p A b x m x' h
  refine ⟨y, ?_, e2⟩
  unfold cmpF
  rw [e1]
  rfl
end Cp
