/-! ===== a law is read: products and sums ===== -/
section Pr
variable {t : Nat → Nat} {n ls ib p A B D q bs k : Nat} {pr : Int32} {x m x' m' : St} {rec : Int32 → St → Option (Int32 × St)}
theorem prod0 (N : Nat) (d i : Int32) (y : St) : f_X5_product_8 rec (N + 1) d 0 i y = some (0, y) := by
  rw [e_X5_product_8, if_pos rfl, if_pos (show zok 0 = true from rfl)]; split <;> rfl
theorem sum0 (N : Nat) (d i : Int32) (y : St) : f_X5_sum_8 rec (N + 1) d 0 i y = some (0, y) := by
  rw [e_X5_sum_8, if_pos rfl, if_pos (show zok 0 = true from rfl)]; split <;> rfl
theorem prodB (hld : isLand ls) (N : Nat) (d i : Int32) {b : Bool} (h : BadR t n p A ls ib b x m x') : ∃ b' y, f_X5_product_8 rec (N + 1) d (bi b) i x' = some (bi b', y) ∧ BadR t n p A ls ib b' x m y := by
  cases b
  · exact ⟨false, x', prod0 N d i x', h⟩
  · by_cases c : (1600 : Int32) ≤ i
    · exact ⟨true, x', by rw [e_X5_product_8, if_pos c]; rfl, h⟩
    · obtain ⟨y, e1, e2⟩ := h.lk hld
      refine ⟨true, y, ?_, e2.to⟩
      rw [e_X5_product_8, if_neg c, bT, e1]
      dsimp only [Option.bind]
      rw [if_neg (by decide), if_neg (by decide), if_neg (by decide)]; rfl
theorem sumB (hld : isLand ls) (N : Nat) (d i : Int32) {b : Bool} (h : BadR t n p A ls ib b x m x') : ∃ b' y, f_X5_sum_8 rec (N + 1) d (bi b) i x' = some (bi b', y) ∧ BadR t n p A ls ib b' x m y := by
  cases b
  · exact ⟨false, x', sum0 N d i x', h⟩
  · by_cases c : (1600 : Int32) ≤ i
    · exact ⟨true, x', by rw [e_X5_sum_8, if_pos c]; rfl, h⟩
    · obtain ⟨y, e1, e2⟩ := h.lk hld
      refine ⟨true, y, ?_, e2.to⟩
      rw [e_X5_sum_8, if_neg c, bT, e1]
      dsimp only [Option.bind]
      rw [if_neg (by decide), if_neg (by decide)]; rfl
theorem prod_F (hld : isLand ls) (d : Int32) : BadF t n ls ib (f_X5_product rec d) := by
  intro p A b x m x' h
  obtain ⟨y, e1, e2⟩ := part_B hld rec d p A b x m x' h
  obtain ⟨N, hN⟩ : ∃ N, FU = N + 1 := ⟨FU - 1, by rw [FU_eq]⟩
  refine ⟨y, ?_, e2⟩
  rw [e_X5_product, e1]
  dsimp only [Option.bind]
  rw [hN, prod0]
theorem sum_F (hld : isLand ls) (d : Int32) (dd : Nat) : BadF t n ls ib (f_X5_sum (dd + 1) d) := by
  intro p A b x m x' h
  obtain ⟨y, e1, e2⟩ := prod_F (rec := f_X5_sum dd) hld d p A b x m x' h
  obtain ⟨N, hN⟩ : ∃ N, FU = N + 1 := ⟨FU - 1, by rw [FU_eq]⟩
  refine ⟨y, ?_, e2⟩
  rw [ed_X5_sum, e_X5_sum, e1]
  dsimp only [Option.bind]
  rw [hN, sum0]
/-- what waits has room -/
theorem MI.pre {p1 c1 ph1 bg1 j1 w r cc cc' : Nat} {s1 : List Tok} {x1 m1 : St} (hC : Cx n ls ib p A B D q bs k cc x) (h : MI t n ls ib p A B D q bs k pr p1 c1 ph1 bg1 j1 s1 [w] x m x1 m1) (hw : w < 100) (hr : rk w < r) (hcc : cc + 4 ≤ cc') : Cx n ls ib p1 (A + (cX s1).length) (B + (cM s1).length) D (q + 1) bs k cc' x1 ∧ gI x1 ls 9 = nI (A + (cX s1).length) ∧ LSt ib (B + (cM s1).length) D (q + 1) bs k ph1 bg1 pr false m1 ∧ TopR r bs (q + 1) m1 := by
  obtain ⟨hld, hR, hn, hi, hD, hb, hA, hBq, hp, h4, hk⟩ := hC
  obtain ⟨⟨g1, g2⟩, g3, g4, g5, ⟨g6, g7⟩, ⟨g8, g8'⟩, ⟨g9, g9'⟩, g10, g11⟩ := h
  have hbn := g2.bn
  rw [List.length_singleton] at g9'
  exact ⟨⟨hld, (g3.2.1 5 1).trans hR, hn, hi, hD, by omega, by omega, by omega, by omega, by omega, hk⟩, g7, g5, TopR.one hw g8'.1 hr hb⟩
theorem prod_L {ph0 : Nat} (hpart : ∀ p c A B q bs k pr ph bg x m, PreA t n ls ib p c A B D q bs k pr ph bg 7 21 x m → Ctr t n ls ib p A B D q bs k pr (5 + 5 * D) 7 0 false (fun ph' _ => ph' = ph) (f_X5_part rec (nI D) x) x m) (hC : Cx n ls ib p A B D q bs k 17 x) (hTp : TopR 6 bs q m) (hph : ph0 ≤ 1) :
    ∀ d N i p' c ph j s E W x' m', n - p' ≤ d → d + 1 < N → i + 1 ≤ p' → PS t n ls ib p A B D q bs k pr p' c ph j s E W x m x' m' → Ex s false (4 + 5 * D) → ph = ph0 → (∀ w ∈ W, 6 ≤ rk w ∧ w < 100) → 4 * W.length ≤ (p' - p) + 4 → Ctr t n ls ib p A B D q bs k pr (4 + 5 * D) 6 4 false (fun ph' c' => ph' = ph0 ∧ c' ≠ 42 ∧ c' ≠ 47 ∧ c' ≠ 37) (f_X5_product_8 rec N (nI D) 1 (nI i) x') x m := by
  intro d
  induction d with
  | zero =>
    intro N i p' c ph j s E W x' m' hd hN hi h hE hph' hW hl
    obtain ⟨N, rfl⟩ : ∃ k, N = k + 1 := ⟨N - 1, by omega⟩
    obtain ⟨a, e, l, v, x1, e1, h1, hT⟩ := h.lk hC.1
    have hbn := h.1.2.bn
    have hB := hT.2.2.1.b
    have hcE : c = 302 := by omega
    refine ⟨true, x1, ?_, .inr ⟨rfl, p', c, ph, j, s, E, W, m', h1, hE, ⟨hph', by omega, by omega, by omega⟩, hW, hl⟩⟩
    rw [e_X5_product_8, if_neg (show ¬ (1600 : Int32) ≤ nI i from nI_ge (b := 1600) (by omega) (by omega)), if_neg (by decide), e1, hcE]
    rfl
  | succ d ih =>
    intro N i p' c ph j s E W x' m' hd hN hi h hE hph' hW hl
    obtain ⟨N, rfl⟩ : ∃ k, N = k + 1 := ⟨N - 1, by omega⟩
    obtain ⟨a, e, l, v, x1, e1, h1, hT⟩ := h.lk hC.1
    have hbn := h.1.2.bn
    have hcl := hT.cl
    have X := e_X5_product_8 rec N (nI D) 1 (nI i) x'
    rw [if_neg (show ¬ (1600 : Int32) ≤ nI i from nI_ge (b := 1600) (by omega) (by omega)), if_neg (by decide), e1] at X
    dsimp only [Option.bind] at X
    rw [X]
    -- one more factor
    have go : ∀ (o : Nat) (u : Int32), ari c → arR c = 6 → mo o = nI (arO c) → xo o = u → 5 ≤ o → o < 12 → Ctr t n ls ib p A B D q bs k pr (4 + 5 * D) 6 4 false (fun ph' c' => ph' = ph0 ∧ c' ≠ 42 ∧ c' ≠ 47 ∧ c' ≠ 37) ((f_X6_skip x1).bind fun q3 => (f_X5_part rec (nI D) q3.2).bind fun q4 => if q4.1 = 0 then ((f_X5_product_8 rec N) (nI D) (0 : Int32) (nI i + (1 : Int32)) q4.2) else (ltt (gR q4.2 5 1) fun g5 => if landB g5 = true then ((f_X4_addCode g5 u q4.2).bind fun q6 => if q6.1 = 0 then ((f_X5_product_8 rec N) (nI D) (0 : Int32) (nI i + (1 : Int32)) q6.2) else ((f_X5_product_8 rec N) (nI D) (1 : Int32) (nI i + (1 : Int32)) q6.2)) else none)) x m := by
      intro o u hc hr ho hu ho5 ho12
      have hw6 : rk (arO c) = 6 ∧ arO c < 100 := by
        rcases hc with rfl | rfl | rfl | rfl | rfl
        · cases hr
        · cases hr
        · exact ⟨rfl, by decide⟩
        · exact ⟨rfl, by decide⟩
        · exact ⟨rfl, by decide⟩
      obtain ⟨k1, k2, k3⟩ := ar_S hC (by omega) h1 hT (by rw [hr]; exact hW) (by rw [hr]; exact hTp) (by omega) hc (by omega)
      rw [k1]
      dsimp only [Option.bind]
      obtain ⟨N', rfl⟩ : ∃ k, N = k + 1 := ⟨N - 1, by omega⟩
      rcases k3 with k3 | ⟨c2, m2, k3⟩
      · obtain ⟨y, y1, y2⟩ := part_B hC.1 rec (nI D) _ _ _ _ _ _ k3
        rw [y1]
        dsimp only
        rw [if_pos rfl, prod0]
        exact badC ⟨y, rfl, y2⟩
      · obtain ⟨q1, q2, q3, q4⟩ := k3.pre (r := 7) (cc' := 21) hC hw6.2 (by omega) (by omega)
        have sub := hpart e c2 _ _ _ _ _ _ ph 0 (sI x1 3 7 0) m2 ⟨k3.1.2, q1, q2, q3, q4, by omega, by omega, .inl rfl⟩
        obtain ⟨b, y, z1, z2⟩ := binS (r := 6) (wc := 4) (H := 4 + 5 * D) (ty' := false) (K0 := fun y => f_X5_product_8 rec (N' + 1) (nI D) (0 : Int32) (nI i + (1 : Int32)) y) (K1 := fun y => f_X5_product_8 rec (N' + 1) (nI D) (1 : Int32) (nI i + (1 : Int32)) y) hC k3 sub hE (by omega) ho12 hu ⟨ho, hw6.2, by omega⟩ (by omega) (by omega) (fun z => by omega) (fun z z' => by omega) (fun _ => ⟨rfl, rfl⟩)
        have z1' : ((f_X5_part rec (nI D) (sI x1 3 7 0)).bind fun q3 => if q3.1 = 0 then (f_X5_product_8 rec (N' + 1) (nI D) (0 : Int32) (nI i + (1 : Int32)) q3.2) else (ltt (gR q3.2 5 1) fun g4 => if landB g4 = true then ((f_X4_addCode g4 u q3.2).bind fun q5 => if q5.1 = 0 then (f_X5_product_8 rec (N' + 1) (nI D) (0 : Int32) (nI i + (1 : Int32)) q5.2) else (f_X5_product_8 rec (N' + 1) (nI D) (1 : Int32) (nI i + (1 : Int32)) q5.2)) else none)) = (if b = true then f_X5_product_8 rec (N' + 1) (nI D) (1 : Int32) (nI i + (1 : Int32)) y else f_X5_product_8 rec (N' + 1) (nI D) (0 : Int32) (nI i + (1 : Int32)) y) := z1
        refine Eq.mpr (congrArg (fun f => Ctr t n ls ib p A B D q bs k pr (4 + 5 * D) 6 4 false (fun ph' c' => ph' = ph0 ∧ c' ≠ 42 ∧ c' ≠ 47 ∧ c' ≠ 37) f x m) z1') ?_
        cases b
        · rw [if_neg nFT, prod0]
          rcases z2 with z2 | ⟨z2, -⟩
          · exact badC ⟨y, rfl, z2⟩
          · cases z2
        · rw [if_pos rfl]
          rcases z2 with z2 | ⟨-, p2, c3, ph3, j3, s3, E3, W3, m3, z2, z3, z4, z5, z6, z7⟩
          · obtain ⟨b', y', w1, w2⟩ := prodB (rec := rec) hC.1 N' (nI D) (nI i + 1) z2
            exact ⟨b', y', w1, .inl w2⟩
          · rw [nI_1]
            exact ih (N' + 1) (i + 1) p2 c3 ph3 j3 s3 E3 W3 y m3 (by omega) (by omega) (by omega) z3 z4 (by omega) z6 z7
    by_cases c37 : c = 37
    · rw [if_pos (by rw [c37]; rfl)]
      exact go 9 _ (by unfold ari; omega) (by rw [c37]; rfl) (by rw [c37]; rfl) rfl (by omega) (by omega)
    rw [if_neg (show ¬ nI c = (37 : Int32) from nI_ne (k := 37) hcl (by omega) c37)]
    by_cases c42 : c = 42
    · rw [if_pos (by rw [c42]; rfl)]
      exact go 7 _ (by unfold ari; omega) (by rw [c42]; rfl) (by rw [c42]; rfl) rfl (by omega) (by omega)
    rw [if_neg (show ¬ nI c = (42 : Int32) from nI_ne (k := 42) hcl (by omega) c42)]
    by_cases c47 : c = 47
    · rw [if_pos (by rw [c47]; rfl)]
      exact go 8 _ (by unfold ari; omega) (by rw [c47]; rfl) (by rw [c47]; rfl) rfl (by omega) (by omega)
    rw [if_neg (show ¬ nI c = (47 : Int32) from nI_ne (k := 47) hcl (by omega) c47)]
    exact ⟨true, x1, rfl, .inr ⟨rfl, p', c, ph, j, s, E, W, m', h1, hE, ⟨hph', c42, c47, c37⟩, hW, hl⟩⟩
end Pr
