/-! ===== a law is read: and, or ===== -/
section An
variable {t : Nat → Nat} {n ls ib p A B D q bs k : Nat} {pr : Int32} {x m x' m' : St} {rec : Int32 → St → Option (Int32 × St)}
theorem both0 (N : Nat) (d i : Int32) (y : St) : f_X5_both_8 rec (N + 1) d 0 i y = some (0, y) := by
  rw [e_X5_both_8, if_pos rfl, if_pos (show zok 0 = true from rfl)]; split <;> rfl
theorem bothB (hld : isLand ls) (N : Nat) (d i : Int32) {b : Bool} (h : BadR t n p A ls ib b x m x') : ∃ b' y, f_X5_both_8 rec (N + 1) d (bi b) i x' = some (bi b', y) ∧ BadR t n p A ls ib b' x m y := by
  cases b
  · exact ⟨false, x', both0 N d i x', h⟩
  · by_cases c : (1600 : Int32) ≤ i
    · exact ⟨true, x', by rw [e_X5_both_8, if_pos c]; rfl, h⟩
    · obtain ⟨y, e1, e2⟩ := h.lk hld
      refine ⟨true, y, ?_, e2.to⟩
      rw [e_X5_both_8, if_neg c, bT, e1]
      dsimp only [Option.bind]
      rw [if_neg (by decide)]; rfl
theorem both_L (hsub : ∀ p c A B q bs k pr x m, PreT t n ls ib p c A B D q bs k pr 3 8 x m → Ctr t n ls ib p A B D q bs k pr (2 + 5 * D) 3 16 true (Psf) (f_X5_fact rec (nI D) x) x m) (hsubB : BadF t n ls ib (f_X5_fact rec (nI D))) (hC : Cx n ls ib p A B D q bs k 4 x) (hTp : TopR 2 bs q m) (ht : tst k = true) :
    ∀ d N i p' c ph j s E W x' m', n - p' ≤ d → d + 1 < N → i + 1 ≤ p' → PS t n ls ib p A B D q bs k pr p' c ph j s E W x m x' m' → Ex s true (1 + 5 * D) → (Psf) ph c → (∀ w ∈ W, 2 ≤ rk w ∧ w < 100) → 4 * W.length ≤ (p' - p) + 20 → Ctr t n ls ib p A B D q bs k pr (1 + 5 * D) 2 20 true (fun ph c => Psf ph c ∧ c ≠ 415) (f_X5_both_8 rec N (nI D) 1 (nI i) x') x m := by
  intro d
  induction d with
  | zero =>
    intro N i p' c ph j s E W x' m' hd hN hi h hE hph hW hl
    obtain ⟨N, rfl⟩ : ∃ k, N = k + 1 := ⟨N - 1, by omega⟩
    obtain ⟨a, e, l, v, x1, e1, h1, hT⟩ := h.lk hC.1
    have hbn := h.1.2.bn
    have hB := hT.2.2.1.b
    have hcE : c = 302 := by omega
    refine ⟨true, x1, ?_, .inr ⟨rfl, p', c, ph, j, s, E, W, m', h1, hE, ⟨hph, by omega⟩, hW, hl⟩⟩
    rw [e_X5_both_8, if_neg (show ¬ (1600 : Int32) ≤ nI i from nI_ge (b := 1600) (by omega) (by omega)), if_neg (by decide), e1, hcE]
    rfl
  | succ d ih =>
    intro N i p' c ph j s E W x' m' hd hN hi h hE hph hW hl
    obtain ⟨N, rfl⟩ : ∃ k, N = k + 1 := ⟨N - 1, by omega⟩
    obtain ⟨a, e, l, v, x1, e1, h1, hT⟩ := h.lk hC.1
    have hbn := h.1.2.bn
    have hcl := hT.cl
    have X := e_X5_both_8 rec N (nI D) 1 (nI i) x'
    rw [if_neg (show ¬ (1600 : Int32) ≤ nI i from nI_ge (b := 1600) (by omega) (by omega)), if_neg (by decide), e1] at X
    dsimp only [Option.bind] at X
    rw [X]
    by_cases hc : c = 415
    · subst hc
      have hph' : 1 ≤ ph ∧ ph ≤ 2 := ⟨hph.1, hph.2.1⟩
      obtain ⟨k1, k2, k3⟩ := an_S hC (by omega) h1 hT hW hTp (by omega) (by omega) hph' ht
      rw [if_pos (show nI 415 = (415 : Int32) from rfl), k1]
      dsimp only [Option.bind]
      obtain ⟨N', rfl⟩ : ∃ k, N = k + 1 := ⟨N - 1, by omega⟩
      rcases k3 with k3 | ⟨c2, m2, k3⟩
      · obtain ⟨y, y1, y2⟩ := hsubB _ _ _ _ _ _ k3
        rw [y1]
        dsimp only
        rw [if_pos rfl, both0]
        exact badC ⟨y, rfl, y2⟩
      · have k3' : MI t n ls ib p A B D q bs k pr e c2 0 1 (j + 1) s [20] x m (sI x1 3 7 0) m2 := k3
        obtain ⟨q1, q2, q3, q4⟩ := k3'.pre (r := 3) (cc' := 8) hC (by decide) (by decide) (by omega)
        have sub := hsub e c2 _ _ _ _ _ _ (sI x1 3 7 0) m2 ⟨k3'.1.2, q1, q2, q3, q4, ht⟩
        obtain ⟨b, y, z1, z2⟩ := binS (o := 1) (v := (-8 : Int32)) (r := 2) (wc := 20) (H := 1 + 5 * D) (ty' := true) (K0 := fun y => f_X5_both_8 rec (N' + 1) (nI D) (0 : Int32) (nI i + (1 : Int32)) y) (K1 := fun y => f_X5_both_8 rec (N' + 1) (nI D) (1 : Int32) (nI i + (1 : Int32)) y) hC k3' sub hE (by omega) (by omega) rfl ⟨rfl, by decide, by decide⟩ (by omega) (by omega) (fun z => ⟨rfl, rfl⟩) (fun z z' => by omega) (fun z => by omega)
        have z1' : ((f_X5_fact rec (nI D) (sI x1 3 7 0)).bind fun q3 => if q3.1 = 0 then (f_X5_both_8 rec (N' + 1) (nI D) (0 : Int32) (nI i + (1 : Int32)) q3.2) else (ltt (gR q3.2 5 1) fun g4 => if landB g4 = true then ((f_X4_addCode g4 (-8 : Int32) q3.2).bind fun q5 => if q5.1 = 0 then (f_X5_both_8 rec (N' + 1) (nI D) (0 : Int32) (nI i + (1 : Int32)) q5.2) else (f_X5_both_8 rec (N' + 1) (nI D) (1 : Int32) (nI i + (1 : Int32)) q5.2)) else none)) = (if b = true then f_X5_both_8 rec (N' + 1) (nI D) (1 : Int32) (nI i + (1 : Int32)) y else f_X5_both_8 rec (N' + 1) (nI D) (0 : Int32) (nI i + (1 : Int32)) y) := z1
        refine Eq.mpr (congrArg (fun f => Ctr t n ls ib p A B D q bs k pr (1 + 5 * D) 2 20 true (fun ph c => Psf ph c ∧ c ≠ 415) f x m) z1') ?_
        cases b
        · rw [if_neg nFT, both0]
          rcases z2 with z2 | ⟨z2, -⟩
          · exact badC ⟨y, rfl, z2⟩
          · cases z2
        · rw [if_pos rfl]
          rcases z2 with z2 | ⟨-, p2, c3, ph3, j3, s3, E3, W3, m3, z2, z3, z4, z5, z6, z7⟩
          · obtain ⟨b', y', w1, w2⟩ := bothB (rec := rec) hC.1 N' (nI D) (nI i + 1) z2
            exact ⟨b', y', w1, .inl w2⟩
          · rw [nI_1]
            exact ih (N' + 1) (i + 1) p2 c3 ph3 j3 s3 E3 W3 y m3 (by omega) (by omega) (by omega) z3 z4 z5 z6 z7
    · rw [if_neg (show ¬ nI c = (415 : Int32) from nI_ne (k := 415) hcl (by omega) hc)]
      exact ⟨true, x1, rfl, .inr ⟨rfl, p', c, ph, j, s, E, W, m', h1, hE, ⟨hph, hc⟩, hW, hl⟩⟩
theorem both_F (hld : isLand ls) (d : Int32) : BadF t n ls ib (f_X5_both rec d) := by
  intro p A b x m x' h
  obtain ⟨y, e1, e2⟩ := fact_F (rec := rec) hld d p A b x m x' h
  obtain ⟨N, hN⟩ := FU_1
  refine ⟨y, ?_, e2⟩
  rw [e_X5_both, e1]
  dsimp only [Option.bind]
  rw [hN, both0]
theorem both_C {c : Nat} (hrec : D < 8 → TestC t n ls ib (D + 1) rec) (hbad : D < 8 → BadF t n ls ib (rec (nI (D + 1)))) (h : PreT t n ls ib p c A B D q bs k pr 2 4 x m) : Ctr t n ls ib p A B D q bs k pr (1 + 5 * D) 2 20 true (fun ph c => Psf ph c ∧ c ≠ 415) (f_X5_both rec (nI D) x) x m := by
  obtain ⟨hN, hC, h9, hM, hTp, ht⟩ := h
  obtain ⟨hld, hR, hn, hi, hD, hb, hA, hBq, hp, h4, hk⟩ := id hC
  obtain ⟨b, x1, e1, e2⟩ := fact_C hrec hbad ⟨hN, ⟨hld, hR, hn, hi, hD, hb, hA, hBq, hp, by omega, hk⟩, h9, hM, hTp.le (by omega), ht⟩
  rw [e_X5_both, e1]
  dsimp only [Option.bind]
  obtain ⟨N, hFU⟩ := FU_1
  rcases e2 with e2 | ⟨rfl, p', c', ph', j, s, E, W, m', z1, z2, z3, z4, z5⟩
  · rw [hFU]
    obtain ⟨b', y, w1, w2⟩ := bothB (rec := rec) hld N (nI D) 0 e2
    exact ⟨b', y, w1, .inl w2⟩
  · have hbn := z1.1.2.bn
    have hpp := z1.1.1
    exact both_L (fun p c A B q bs k pr x m h => fact_C hrec hbad h) (fact_F hld _) hC hTp ht 1600 FU 0 p' c' ph' j s E W x1 m' (by omega) (by rw [FU_eq]; omega) (by omega) z1 (z2.w (by omega)) z3 (fun w hw => by have := z4 w hw; omega) (by omega)

theorem test0 (N : Nat) (d i : Int32) (y : St) : f_X5_test_8 rec (N + 1) d 0 i y = some (0, y) := by
  rw [e_X5_test_8, if_pos rfl, if_pos (show zok 0 = true from rfl)]; split <;> rfl
theorem testB (hld : isLand ls) (N : Nat) (d i : Int32) {b : Bool} (h : BadR t n p A ls ib b x m x') : ∃ b' y, f_X5_test_8 rec (N + 1) d (bi b) i x' = some (bi b', y) ∧ BadR t n p A ls ib b' x m y := by
  cases b
  · exact ⟨false, x', test0 N d i x', h⟩
  · by_cases c : (1600 : Int32) ≤ i
    · exact ⟨true, x', by rw [e_X5_test_8, if_pos c]; rfl, h⟩
    · obtain ⟨y, e1, e2⟩ := h.lk hld
      refine ⟨true, y, ?_, e2.to⟩
      rw [e_X5_test_8, if_neg c, bT, e1]
      dsimp only [Option.bind]
      rw [if_neg (by decide)]; rfl
theorem test_L (hsub : ∀ p c A B q bs k pr x m, PreT t n ls ib p c A B D q bs k pr 2 4 x m → Ctr t n ls ib p A B D q bs k pr (1 + 5 * D) 2 20 true (fun ph c => Psf ph c ∧ c ≠ 415) (f_X5_both rec (nI D) x) x m) (hsubB : BadF t n ls ib (f_X5_both rec (nI D))) (hC : Cx n ls ib p A B D q bs k 0 x) (hTp : TopR 1 bs q m) (ht : tst k = true) :
    ∀ d N i p' c ph j s E W x' m', n - p' ≤ d → d + 1 < N → i + 1 ≤ p' → PS t n ls ib p A B D q bs k pr p' c ph j s E W x m x' m' → Ex s true (5 * D) → (fun ph c => Psf ph c ∧ c ≠ 415) ph c → (∀ w ∈ W, 1 ≤ rk w ∧ w < 100) → 4 * W.length ≤ (p' - p) + 24 → Ctr t n ls ib p A B D q bs k pr (5 * D) 1 24 true (fun ph c => Psf ph c ∧ c ≠ 414 ∧ c ≠ 415) (f_X5_test_8 rec N (nI D) 1 (nI i) x') x m := by
  intro d
  induction d with
  | zero =>
    intro N i p' c ph j s E W x' m' hd hN hi h hE hph hW hl
    obtain ⟨N, rfl⟩ : ∃ k, N = k + 1 := ⟨N - 1, by omega⟩
    obtain ⟨a, e, l, v, x1, e1, h1, hT⟩ := h.lk hC.1
    have hbn := h.1.2.bn
    have hB := hT.2.2.1.b
    have hcE : c = 302 := by omega
    refine ⟨true, x1, ?_, .inr ⟨rfl, p', c, ph, j, s, E, W, m', h1, hE, ⟨hph.1, by omega, hph.2⟩, hW, hl⟩⟩
    rw [e_X5_test_8, if_neg (show ¬ (1600 : Int32) ≤ nI i from nI_ge (b := 1600) (by omega) (by omega)), if_neg (by decide), e1, hcE]
    rfl
  | succ d ih =>
    intro N i p' c ph j s E W x' m' hd hN hi h hE hph hW hl
    obtain ⟨N, rfl⟩ : ∃ k, N = k + 1 := ⟨N - 1, by omega⟩
    obtain ⟨a, e, l, v, x1, e1, h1, hT⟩ := h.lk hC.1
    have hbn := h.1.2.bn
    have hcl := hT.cl
    have X := e_X5_test_8 rec N (nI D) 1 (nI i) x'
    rw [if_neg (show ¬ (1600 : Int32) ≤ nI i from nI_ge (b := 1600) (by omega) (by omega)), if_neg (by decide), e1] at X
    dsimp only [Option.bind] at X
    rw [X]
    by_cases hc : c = 414
    · subst hc
      have hph' : 1 ≤ ph ∧ ph ≤ 2 := ⟨hph.1.1, hph.1.2.1⟩
      obtain ⟨k1, k2, k3⟩ := an_S hC (by omega) h1 hT hW hTp (by omega) (by omega) hph' ht
      rw [if_pos (show nI 414 = (414 : Int32) from rfl), k1]
      dsimp only [Option.bind]
      obtain ⟨N', rfl⟩ : ∃ k, N = k + 1 := ⟨N - 1, by omega⟩
      rcases k3 with k3 | ⟨c2, m2, k3⟩
      · obtain ⟨y, y1, y2⟩ := hsubB _ _ _ _ _ _ k3
        rw [y1]
        dsimp only
        rw [if_pos rfl, test0]
        exact badC ⟨y, rfl, y2⟩
      · have k3' : MI t n ls ib p A B D q bs k pr e c2 0 1 (j + 1) s [21] x m (sI x1 3 7 0) m2 := k3
        obtain ⟨q1, q2, q3, q4⟩ := k3'.pre (r := 2) (cc' := 4) hC (by decide) (by decide) (by omega)
        have sub := hsub e c2 _ _ _ _ _ _ (sI x1 3 7 0) m2 ⟨k3'.1.2, q1, q2, q3, q4, ht⟩
        obtain ⟨b, y, z1, z2⟩ := binS (o := 0) (v := (-7 : Int32)) (r := 1) (wc := 24) (H := 5 * D) (ty' := true) (K0 := fun y => f_X5_test_8 rec (N' + 1) (nI D) (0 : Int32) (nI i + (1 : Int32)) y) (K1 := fun y => f_X5_test_8 rec (N' + 1) (nI D) (1 : Int32) (nI i + (1 : Int32)) y) hC k3' sub hE (by omega) (by omega) rfl ⟨rfl, by decide, by decide⟩ (by omega) (by omega) (fun z => ⟨rfl, rfl⟩) (fun z z' => by omega) (fun z => by omega)
        have z1' : ((f_X5_both rec (nI D) (sI x1 3 7 0)).bind fun q3 => if q3.1 = 0 then (f_X5_test_8 rec (N' + 1) (nI D) (0 : Int32) (nI i + (1 : Int32)) q3.2) else (ltt (gR q3.2 5 1) fun g4 => if landB g4 = true then ((f_X4_addCode g4 (-7 : Int32) q3.2).bind fun q5 => if q5.1 = 0 then (f_X5_test_8 rec (N' + 1) (nI D) (0 : Int32) (nI i + (1 : Int32)) q5.2) else (f_X5_test_8 rec (N' + 1) (nI D) (1 : Int32) (nI i + (1 : Int32)) q5.2)) else none)) = (if b = true then f_X5_test_8 rec (N' + 1) (nI D) (1 : Int32) (nI i + (1 : Int32)) y else f_X5_test_8 rec (N' + 1) (nI D) (0 : Int32) (nI i + (1 : Int32)) y) := z1
        refine Eq.mpr (congrArg (fun f => Ctr t n ls ib p A B D q bs k pr (5 * D) 1 24 true (fun ph c => Psf ph c ∧ c ≠ 414 ∧ c ≠ 415) f x m) z1') ?_
        cases b
        · rw [if_neg nFT, test0]
          rcases z2 with z2 | ⟨z2, -⟩
          · exact badC ⟨y, rfl, z2⟩
          · cases z2
        · rw [if_pos rfl]
          rcases z2 with z2 | ⟨-, p2, c3, ph3, j3, s3, E3, W3, m3, z2, z3, z4, z5, z6, z7⟩
          · obtain ⟨b', y', w1, w2⟩ := testB (rec := rec) hC.1 N' (nI D) (nI i + 1) z2
            exact ⟨b', y', w1, .inl w2⟩
          · rw [nI_1]
            exact ih (N' + 1) (i + 1) p2 c3 ph3 j3 s3 E3 W3 y m3 (by omega) (by omega) (by omega) z3 z4 z5 z6 z7
    · rw [if_neg (show ¬ nI c = (414 : Int32) from nI_ne (k := 414) hcl (by omega) hc)]
      exact ⟨true, x1, rfl, .inr ⟨rfl, p', c, ph, j, s, E, W, m', h1, hE, ⟨hph.1, hc, hph.2⟩, hW, hl⟩⟩
theorem test_F (hld : isLand ls) (d : Int32) (dd : Nat) : BadF t n ls ib (f_X5_test (dd + 1) d) := by
  intro p A b x m x' h
  obtain ⟨y, e1, e2⟩ := both_F (rec := f_X5_test dd) hld d p A b x m x' h
  obtain ⟨N, hN⟩ := FU_1
  refine ⟨y, ?_, e2⟩
  rw [ed_X5_test, e_X5_test, e1]
  dsimp only [Option.bind]
  rw [hN, test0]
theorem test_C (hld : isLand ls) : ∀ d D, 9 ≤ D + d → D ≤ 8 → TestC t n ls ib D (f_X5_test d) := by
  intro d
  induction d with
  | zero => intro D h1 h2; omega
  | succ d ih =>
    intro D h1 h2 p c A B q bs k pr x m h
    have hrec : D < 8 → TestC t n ls ib (D + 1) (f_X5_test d) := fun h3 => ih (D + 1) (by omega) (by omega)
    have hbad : D < 8 → BadF t n ls ib (f_X5_test d (nI (D + 1))) := fun h3 => by
      obtain ⟨d', rfl⟩ : ∃ d', d = d' + 1 := ⟨d - 1, by omega⟩
      exact test_F hld _ _
    obtain ⟨hN, hC, h9, hM, hTp, ht⟩ := h
    obtain ⟨hld, hR, hn, hi, hD, hb, hA, hBq, hp, h4, hk⟩ := id hC
    obtain ⟨b, x1, e1, e2⟩ := both_C hrec hbad ⟨hN, ⟨hld, hR, hn, hi, hD, hb, hA, hBq, hp, by omega, hk⟩, h9, hM, hTp.le (by omega), ht⟩
    rw [ed_X5_test, e_X5_test, e1]
    dsimp only [Option.bind]
    obtain ⟨N, hFU⟩ := FU_1
    rcases e2 with e2 | ⟨rfl, p', c', ph', j, s, E, W, m', z1, z2, z3, z4, z5⟩
    · rw [hFU]
      obtain ⟨b', y, w1, w2⟩ := testB (rec := f_X5_test d) hld N (nI D) 0 e2
      exact ⟨b', y, w1, .inl w2⟩
    · have hbn := z1.1.2.bn
      have hpp := z1.1.1
      exact test_L (fun p c A B q bs k pr x m h => both_C hrec hbad h) (both_F hld _) hC hTp ht 1600 FU 0 p' c' ph' j s E W x1 m' (by omega) (by rw [FU_eq]; omega) (by omega) z1 (z2.w (by omega)) z3 (fun w hw => by have := z4 w hw; omega) (by omega)
end An
