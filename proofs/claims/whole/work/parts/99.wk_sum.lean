/-! ===== a law is read: sums ===== -/
section Su
variable {t : Nat → Nat} {n ls ib p A B D q bs k : Nat} {pr : Int32} {x m x' m' : St} {rec : Int32 → St → Option (Int32 × St)}
theorem FU_1 : ∃ N, FU = N + 1 := ⟨FU - 1, by rw [FU_eq]⟩
theorem prod_C {c ph bg : Nat} (hrec : D < 8 → SumC t n ls ib (D + 1) rec) (hbad : D < 8 → BadF t n ls ib (rec (nI (D + 1)))) (h : PreA t n ls ib p c A B D q bs k pr ph bg 6 17 x m) : Ctr t n ls ib p A B D q bs k pr (4 + 5 * D) 6 4 false (fun ph' c' => ph' = ph ∧ c' ≠ 42 ∧ c' ≠ 47 ∧ c' ≠ 37) (f_X5_product rec (nI D) x) x m := by
  obtain ⟨hN, hC, h9, hM, hTp, hph, hbg, hf⟩ := h
  obtain ⟨hld, hR, hn, hi, hD, hb, hA, hBq, hp, h4, hk⟩ := id hC
  obtain ⟨b, x1, e1, e2⟩ := part_C hrec hbad ⟨hN, ⟨hld, hR, hn, hi, hD, hb, hA, hBq, hp, by omega, hk⟩, h9, hM, hTp.le (by omega), hph, hbg, hf⟩
  rw [e_X5_product, e1]
  dsimp only [Option.bind]
  obtain ⟨N, hFU⟩ := FU_1
  rcases e2 with e2 | ⟨rfl, p', c', ph', j, s, E, W, m', z1, z2, z3, z4, z5⟩
  · rw [hFU]
    obtain ⟨b', y, w1, w2⟩ := prodB (rec := rec) hld N (nI D) 0 e2
    exact ⟨b', y, w1, .inl w2⟩
  · have hbn := z1.1.2.bn
    have hpp := z1.1.1
    exact prod_L (ph0 := ph) (fun p c A B q bs k pr ph bg x m h => part_C hrec hbad h) hC hTp hph 1600 FU 0 p' c' ph' j s E W x1 m' (by omega) (by rw [FU_eq]; omega) (by omega) z1 (z2.w (by omega)) z3 (fun w hw => by have := z4 w hw; omega) (by omega)
theorem sum_L {ph0 : Nat} (hprod : ∀ p c A B q bs k pr ph bg x m, PreA t n ls ib p c A B D q bs k pr ph bg 6 17 x m → Ctr t n ls ib p A B D q bs k pr (4 + 5 * D) 6 4 false (fun ph' c' => ph' = ph ∧ c' ≠ 42 ∧ c' ≠ 47 ∧ c' ≠ 37) (f_X5_product rec (nI D) x) x m) (hC : Cx n ls ib p A B D q bs k 13 x) (hTp : TopR 5 bs q m) (hph : ph0 ≤ 1) :
    ∀ d N i p' c ph j s E W x' m', n - p' ≤ d → d + 1 < N → i + 1 ≤ p' → PS t n ls ib p A B D q bs k pr p' c ph j s E W x m x' m' → Ex s false (3 + 5 * D) → (ph = ph0 ∧ c ≠ 42 ∧ c ≠ 47 ∧ c ≠ 37) → (∀ w ∈ W, 5 ≤ rk w ∧ w < 100) → 4 * W.length ≤ (p' - p) + 8 → Ctr t n ls ib p A B D q bs k pr (3 + 5 * D) 5 8 false (fun ph' c' => ph' = ph0 ∧ ¬ ari c') (f_X5_sum_8 rec N (nI D) 1 (nI i) x') x m := by
  intro d
  induction d with
  | zero =>
    intro N i p' c ph j s E W x' m' hd hN hi h hE hph' hW hl
    obtain ⟨N, rfl⟩ : ∃ k, N = k + 1 := ⟨N - 1, by omega⟩
    obtain ⟨a, e, l, v, x1, e1, h1, hT⟩ := h.lk hC.1
    have hbn := h.1.2.bn
    have hB := hT.2.2.1.b
    have hcE : c = 302 := by omega
    refine ⟨true, x1, ?_, .inr ⟨rfl, p', c, ph, j, s, E, W, m', h1, hE, ⟨hph'.1, by unfold ari; omega⟩, hW, hl⟩⟩
    rw [e_X5_sum_8, if_neg (show ¬ (1600 : Int32) ≤ nI i from nI_ge (b := 1600) (by omega) (by omega)), if_neg (by decide), e1, hcE]
    rfl
  | succ d ih =>
    intro N i p' c ph j s E W x' m' hd hN hi h hE hph' hW hl
    obtain ⟨N, rfl⟩ : ∃ k, N = k + 1 := ⟨N - 1, by omega⟩
    obtain ⟨a, e, l, v, x1, e1, h1, hT⟩ := h.lk hC.1
    have hbn := h.1.2.bn
    have hcl := hT.cl
    have X := e_X5_sum_8 rec N (nI D) 1 (nI i) x'
    rw [if_neg (show ¬ (1600 : Int32) ≤ nI i from nI_ge (b := 1600) (by omega) (by omega)), if_neg (by decide), e1] at X
    dsimp only [Option.bind] at X
    rw [X]
    have go : ∀ (o : Nat) (u : Int32), (c = 43 ∨ c = 45) → mo o = nI (arO c) → xo o = u → 5 ≤ o → o < 12 → Ctr t n ls ib p A B D q bs k pr (3 + 5 * D) 5 8 false (fun ph' c' => ph' = ph0 ∧ ¬ ari c') ((f_X6_skip x1).bind fun q3 => (f_X5_product rec (nI D) q3.2).bind fun q4 => if q4.1 = 0 then ((f_X5_sum_8 rec N) (nI D) (0 : Int32) (nI i + (1 : Int32)) q4.2) else (ltt (gR q4.2 5 1) fun g5 => if landB g5 = true then ((f_X4_addCode g5 u q4.2).bind fun q6 => if q6.1 = 0 then ((f_X5_sum_8 rec N) (nI D) (0 : Int32) (nI i + (1 : Int32)) q6.2) else ((f_X5_sum_8 rec N) (nI D) (1 : Int32) (nI i + (1 : Int32)) q6.2)) else none)) x m := by
      intro o u hc ho hu ho5 ho12
      have hw6 : rk (arO c) = 5 ∧ arO c < 100 := by
        rcases hc with rfl | rfl
        · exact ⟨rfl, by decide⟩
        · exact ⟨rfl, by decide⟩
      have hr : arR c = 5 := by unfold arR; rw [if_pos hc]
      obtain ⟨k1, k2, k3⟩ := ar_S hC (by omega) h1 hT (by rw [hr]; exact hW) (by rw [hr]; exact hTp) (by omega) (by unfold ari; omega) (by omega)
      rw [k1]
      dsimp only [Option.bind]
      obtain ⟨N', rfl⟩ : ∃ k, N = k + 1 := ⟨N - 1, by omega⟩
      rcases k3 with k3 | ⟨c2, m2, k3⟩
      · obtain ⟨y, y1, y2⟩ := prod_F (rec := rec) hC.1 (nI D) _ _ _ _ _ _ k3
        rw [y1]
        dsimp only
        rw [if_pos rfl, sum0]
        exact badC ⟨y, rfl, y2⟩
      · obtain ⟨q1, q2, q3, q4⟩ := k3.pre (r := 6) (cc' := 17) hC hw6.2 (by omega) (by omega)
        have sub := hprod e c2 _ _ _ _ _ _ ph 0 (sI x1 3 7 0) m2 ⟨k3.1.2, q1, q2, q3, q4, by omega, by omega, .inl rfl⟩
        obtain ⟨b, y, z1, z2⟩ := binS (r := 5) (wc := 8) (H := 3 + 5 * D) (ty' := false) (K0 := fun y => f_X5_sum_8 rec (N' + 1) (nI D) (0 : Int32) (nI i + (1 : Int32)) y) (K1 := fun y => f_X5_sum_8 rec (N' + 1) (nI D) (1 : Int32) (nI i + (1 : Int32)) y) hC k3 sub hE (by omega) ho12 hu ⟨ho, hw6.2, by omega⟩ (by omega) (by omega) (fun z => by omega) (fun z z' => by omega) (fun _ => ⟨rfl, rfl⟩)
        have z1' : ((f_X5_product rec (nI D) (sI x1 3 7 0)).bind fun q3 => if q3.1 = 0 then (f_X5_sum_8 rec (N' + 1) (nI D) (0 : Int32) (nI i + (1 : Int32)) q3.2) else (ltt (gR q3.2 5 1) fun g4 => if landB g4 = true then ((f_X4_addCode g4 u q3.2).bind fun q5 => if q5.1 = 0 then (f_X5_sum_8 rec (N' + 1) (nI D) (0 : Int32) (nI i + (1 : Int32)) q5.2) else (f_X5_sum_8 rec (N' + 1) (nI D) (1 : Int32) (nI i + (1 : Int32)) q5.2)) else none)) = (if b = true then f_X5_sum_8 rec (N' + 1) (nI D) (1 : Int32) (nI i + (1 : Int32)) y else f_X5_sum_8 rec (N' + 1) (nI D) (0 : Int32) (nI i + (1 : Int32)) y) := z1
        refine Eq.mpr (congrArg (fun f => Ctr t n ls ib p A B D q bs k pr (3 + 5 * D) 5 8 false (fun ph' c' => ph' = ph0 ∧ ¬ ari c') f x m) z1') ?_
        cases b
        · rw [if_neg nFT, sum0]
          rcases z2 with z2 | ⟨z2, -⟩
          · exact badC ⟨y, rfl, z2⟩
          · cases z2
        · rw [if_pos rfl]
          rcases z2 with z2 | ⟨-, p2, c3, ph3, j3, s3, E3, W3, m3, z2, z3, z4, z5, z6, z7⟩
          · obtain ⟨b', y', w1, w2⟩ := sumB (rec := rec) hC.1 N' (nI D) (nI i + 1) z2
            exact ⟨b', y', w1, .inl w2⟩
          · rw [nI_1]
            exact ih (N' + 1) (i + 1) p2 c3 ph3 j3 s3 E3 W3 y m3 (by omega) (by omega) (by omega) z3 z4 (by omega) z6 z7
    by_cases c43 : c = 43
    · rw [if_pos (by rw [c43]; rfl)]
      exact go 5 _ (by omega) (by rw [c43]; rfl) rfl (by omega) (by omega)
    rw [if_neg (show ¬ nI c = (43 : Int32) from nI_ne (k := 43) hcl (by omega) c43)]
    by_cases c45 : c = 45
    · rw [if_pos (by rw [c45]; rfl)]
      exact go 6 _ (by omega) (by rw [c45]; rfl) rfl (by omega) (by omega)
    rw [if_neg (show ¬ nI c = (45 : Int32) from nI_ne (k := 45) hcl (by omega) c45)]
    exact ⟨true, x1, rfl, .inr ⟨rfl, p', c, ph, j, s, E, W, m', h1, hE, ⟨hph'.1, by unfold ari; omega⟩, hW, hl⟩⟩
theorem sum_C (hld : isLand ls) : ∀ d D, 9 ≤ D + d → D ≤ 8 → SumC t n ls ib D (f_X5_sum d) := by
  intro d
  induction d with
  | zero => intro D h1 h2; omega
  | succ d ih =>
    intro D h1 h2 p c A B q bs k pr ph bg x m h
    have hrec : D < 8 → SumC t n ls ib (D + 1) (f_X5_sum d) := fun h3 => ih (D + 1) (by omega) (by omega)
    have hbad : D < 8 → BadF t n ls ib (f_X5_sum d (nI (D + 1))) := fun h3 => by
      obtain ⟨d', rfl⟩ : ∃ d', d = d' + 1 := ⟨d - 1, by omega⟩
      exact sum_F hld _ _
    obtain ⟨hN, hC, h9, hM, hTp, hph, hbg, hf⟩ := h
    obtain ⟨hld, hR, hn, hi, hD, hb, hA, hBq, hp, h4, hk⟩ := id hC
    obtain ⟨b, x1, e1, e2⟩ := prod_C hrec hbad ⟨hN, ⟨hld, hR, hn, hi, hD, hb, hA, hBq, hp, by omega, hk⟩, h9, hM, hTp.le (by omega), hph, hbg, hf⟩
    rw [ed_X5_sum, e_X5_sum, e1]
    dsimp only [Option.bind]
    obtain ⟨N, hFU⟩ := FU_1
    rcases e2 with e2 | ⟨rfl, p', c', ph', j, s, E, W, m', z1, z2, z3, z4, z5⟩
    · rw [hFU]
      obtain ⟨b', y, w1, w2⟩ := sumB (rec := f_X5_sum d) hld N (nI D) 0 e2
      exact ⟨b', y, w1, .inl w2⟩
    · have hbn := z1.1.2.bn
      have hpp := z1.1.1
      exact sum_L (ph0 := ph) (fun p c A B q bs k pr ph bg x m h => prod_C hrec hbad h) hC hTp hph 1600 FU 0 p' c' ph' j s E W x1 m' (by omega) (by rw [FU_eq]; omega) (by omega) z1 (z2.w (by omega)) z3 (fun w hw => by have := z4 w hw; omega) (by omega)
end Su
