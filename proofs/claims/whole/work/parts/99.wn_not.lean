/-! ===== a law is read: not ===== -/
def NS (t : Nat → Nat) (n ls ib p A B D q bs k : Nat) (pr : Int32) (kk p' c j : Nat) (x m x' m' : St) : Prop :=
  (p ≤ p' ∧ NXc t n p' c x' m') ∧ XFr ls A x x' ∧ MF ib B D q m m' ∧ LSt ib B D (q + kk) bs k 0 1 pr false m' ∧ gI x' ls 9 = nI A ∧ Ops m' q (List.replicate kk 22) ∧ (j ≤ p' - p ∧ ∀ N, f_X11_reads_43 (N + j) 1 m = f_X11_reads_43 N 1 m') ∧ ((kk = 0 ∧ p' = p) ∨ (1 ≤ kk ∧ 4 * kk ≤ p' - p + 1 ∧ let1 (t (p' - 1)) = true ∧ Qp t n p' ∧ p < p'))
section Nt
variable {t : Nat → Nat} {n ls ib p A B D q bs k : Nat} {pr : Int32} {x m x' m' x1 m1 x3 m3 : St} {rec : Int32 → St → Option (Int32 × St)}
theorem addBad {p1 j1 : Nat} {v : Int32} {y0 : St} (hl : isLand ls) (hp : p < p1) (hA : A ≤ p) (hn : p1 ≤ n ∧ n ≤ 1600) (h : BadR t n p1 A ls ib true x1 m1 y0) (hfl : BF ls ib x m x1 m1) (hj : j1 ≤ p1 - p) (hr : ∀ N, f_X11_reads_43 (N + j1) 1 m = f_X11_reads_43 N 1 m1) : ∃ b y, f_X4_addCode ls v y0 = some (bi b, y) ∧ BadR t n p A ls ib b x m y := by
  have hls := land_o hl
  obtain ⟨m', j, d1, d2, d3, d4, A', d5, d6, d7⟩ := h
  have d2' : ∀ N, f_X11_reads_43 (N + (j + j1)) 1 m = some ((), m') := fun N => by rw [← Nat.add_assoc, hr]; exact d2 N
  by_cases c : A' < 1600
  · refine ⟨true, _, add_X d5 c, m', j + j1, by omega, d2', (hfl.tr d3).tr (BF.ad hl), d4, A' + 1, ge_s, by omega, ?_⟩
    rcases d7 with d7 | ⟨-, p', d7, d8, d9⟩
    · exact .inl (d7.c (adX_3 hl) (S0.rf _))
    · exact .inr ⟨rfl, p', d7.c (adX_3 hl) (S0.rf _), by omega, by omega⟩
  · refine ⟨false, y0, by rw [e_X4_addCode, d5, if_neg (show ¬ nI A' < (1600 : Int32) from nI_nlt (b := 1600) (by omega) (by omega))]; rfl, m', j + j1, by omega, d2', hfl.tr d3, d4, A', d5, d6, ?_⟩
    rcases d7 with d7 | ⟨-, p', d7, d8, d9⟩
    · exact .inl d7
    · have := d7.2.1
      omega
theorem not_S {a e v kk p' j : Nat} {l : List Nat} (hC : Cx n ls ib p A B D q bs k 8 x) (h : NS t n ls ib p A B D q bs k pr kk p' 416 j x m x1 m') (hT : TS t n p' 416 a e l v x1 m') (ht : tst k = true) : f_X6_skip x1 = some ((), sI x1 3 7 0) ∧ p' < e ∧ (BadR t n p A ls ib true x m (sI x1 3 7 0) ∨ ∃ c2 m2, NS t n ls ib p A B D q bs k pr (kk + 1) e c2 (j + 1) x m (sI x1 3 7 0) m2) := by
  obtain ⟨hld, hR, hn, hi, hD, hb, hA, hBq, hp, h4, hk⟩ := id hC
  have hls := land_o hld
  obtain ⟨⟨h1, h2⟩, h3, h4', h5, h6, h7, ⟨h8, h9⟩, h10⟩ := h
  have hbn := h2.bn
  have hB := hT.2.2.1.b
  -- the word's room
  obtain ⟨he, hlet⟩ : e = a + 3 ∧ let1 (t (e - 1)) = true ∧ let1 (t a) = true := by
    rcases hT.2.2.1.cd hT.1.1 with z | z | z | ⟨z1, z2, z3, z4, z5, z6, z7, z8⟩
    · omega
    · omega
    · omega
    · have hl := (own_eq (l := l) (i := 16) (by omega)).mp z2.symm
      rw [hl] at z6
      exact ⟨z6, z8, z7⟩
  have hQe := hT.2.2.1.q
  have hroom : 4 * (kk + 1) ≤ e - p + 1 ∧ p < e := by
    rcases h10 with ⟨rfl, rfl⟩ | ⟨k1, k2, k3, k4, k5⟩
    · omega
    · have hne : a ≠ p' := by
        intro q
        rcases k4 with k4 | k4
        · omega
        · exact (k4 (by omega)).1 ⟨k3, by rw [← q]; exact hlet.2⟩
      omega
  have h48 : gI m' 0 48 = 0 := h5.2.2.2.2.2.1
  have hq : q + kk < 500 := by
    rcases h10 with ⟨rfl, rfl⟩ | ⟨k1, k2, -⟩ <;> omega
  have hop : f_X11_operand m' = ((f_X11_ahead (hoM (q + kk) (nI 22) m')).bind fun q201 => some ((0 : Int32), q201.2)) := by
    obtain ⟨g38, g37, g44, g45, g47, g48, g26, g27, g28, g29, g30⟩ := h5
    have w1 : f_X11_isWord 7237492 m' = some (1, m') := hT.w1 16 (by omega) rfl
    rw [e_X11_operand]
    dsimp only [ltt]
    rw [g44, nI_pred, if_pos (inb_nI (by omega) (by omega)), ix_nI (by omega), g26, tst_M hk, ht]
    dsimp only [Option.bind]
    rw [bT, if_pos (inb_nI (by omega) (by omega)), g28, if_neg (show ¬ nI 1 = 0 by decide), if_neg (by decide), w1]
    dsimp only
    rw [if_neg (by decide), show (22 : Int32) = nI 22 from rfl, hold_M g47 hq]
  obtain ⟨m4, a1, a2, a3, a4, a5, a6, a7⟩ := (hT.c (m' := hoM (q + kk) (nI 22) m') (S3.rf _) hoM_0).adv (by omega)
  rw [a2] at hop
  dsimp only [Option.bind] at hop
  have hen := a7.2.1
  have hMf : MF ib B D q m (sI m4 0 48 (bi false)) := ((h4'.tr (hoM_f : MF ib B D (q + kk) _ _) (Nat.le_refl _) (Nat.le_refl _) (by omega)).tr (MF.tt a5) (Nat.le_refl _) (Nat.le_refl _) (Nat.le_refl _)).tr (MF.s (by unfold MFx; omega)) (Nat.le_refl _) (Nat.le_refl _) (Nat.le_refl _)
  have hX : XFr ls A x (sI x1 3 7 0) := h3.tr (XFr.tt a3) (Nat.le_refl _)
  have n4 : NX t n e (sI x1 3 7 0) (sI m4 0 48 (bi false)) := a7.c (S3.rf _) (S0.s (by omega))
  have x9 : gI (sI x1 3 7 0) ls 9 = nI A := (ge_n (by omega)).trans h6
  refine ⟨a1, a6, ?_⟩
  rcases NXc.of n4 with ⟨c2, n5⟩ | n5
  · right
    refine ⟨c2, sI m4 0 48 (bi false), ⟨by omega, n5⟩, hX, hMf, ?_, x9, ?_, ⟨by omega, fun N => ?_⟩, .inr ⟨by omega, hroom.1, hlet.1, hQe, hroom.2⟩⟩
    · have := ((h5.ho (w := nI 22)).tt a5).s48 (b := false)
      rw [show q + (kk + 1) = q + kk + 1 by omega]; exact this
    · rw [List.replicate_succ]
      refine ⟨?_, h7.cc (fun i hi1 hi2 => ?_)⟩
      · rw [List.length_replicate, ge_n (by omega), a5.1 31 _ (by omega)]; exact hoM_q
      · rw [List.length_replicate] at hi2
        rw [ge_n (by omega), a5.1 31 _ (by omega)]
        exact (ge_n (by omega)).trans (ge_n (by omega))
    · rw [show N + (j + 1) = N + 1 + j by omega, h9, rd_op (b := false) N h48 hop, if_pos]
      have := n5.e8
      rw [ge_n (by omega)] at this; exact this
  · left
    refine ⟨sI m4 0 48 (bi false), 2 + j, by omega, fun N => ?_, hX.fl hld hMf hi (by omega), n5, A, x9, by omega, .inr ⟨rfl, e, n4, by omega, by omega⟩⟩
    rw [show N + (2 + j) = N + 1 + 1 + j by omega, h9, rd_op (b := false) (N + 1) h48 hop, if_neg (by rw [ge_n (by omega)] at n5; exact n5), rd_0]
theorem Ex.not {s : List Tok} {H kk : Nat} (h : Ex s true H) : Ex ([] ++ s ++ [(3, kk)]) true H := by
  intro ts ht
  rw [List.nil_append, chk_app, h ts ht]
  show chk [(3, kk)] (true :: ts) = _
  rw [chk1]
  unfold tkT
  dsimp only
  rw [if_neg (by omega), if_neg (by omega), if_neg (by omega), if_pos rfl]
theorem factE {kk p' c j : Nat} (hrec : D < 8 → TestC t n ls ib (D + 1) rec) (hbad : D < 8 → BadF t n ls ib (rec (nI (D + 1)))) (hC : Cx n ls ib p A B D q bs k 8 x) (hTp : TopR 3 bs q m) (ht : tst k = true) (h : NS t n ls ib p A B D q bs k pr kk p' c j x m x1 m1) (hc : c ≠ 416) : Ctr t n ls ib p A B D q bs k pr (2 + 5 * D) 3 16 true Psf (f_X5_fact_47 rec (nI D) (nI (kk % 2)) x1) x m := by
  obtain ⟨hld, hR, hn, hi, hD, hb, hA, hBq, hp, h4, hk⟩ := id hC
  have hls := land_o hld
  have hlB := landB_of hld
  obtain ⟨⟨h1, h2⟩, h3, h4', h5, h6, h7, ⟨h8, h9⟩, h10⟩ := id h
  have hbn := h2.bn
  have hR1 : gR x1 5 1 = ls := (h3.2.1 5 1).trans hR
  have hfl : BF ls ib x m x1 m1 := h3.fl hld h4' hi (by omega)
  have hCx : Cx n ls ib p' A B D (q + kk) bs k 9 x1 := by
    refine ⟨hld, hR1, hn, hi, hD, by omega, by omega, ?_, by omega, ?_, hk⟩
    · rcases h10 with ⟨rfl, rfl⟩ | ⟨k1, k2, -⟩ <;> omega
    · rcases h10 with ⟨rfl, rfl⟩ | ⟨k1, k2, -⟩ <;> omega
  have hT4 : TopR 4 bs (q + kk) m1 := by
    rcases h10 with ⟨rfl, rfl⟩ | ⟨k1, k2, -⟩
    · exact (hTp.cc h4' hb).le (by omega)
    · obtain ⟨k', rfl⟩ : ∃ k', kk = k' + 1 := ⟨kk - 1, by omega⟩
      rw [List.replicate_succ] at h7
      have := h7.1
      rw [List.length_replicate] at this
      rw [show q + (k' + 1) = q + k' + 1 by omega]
      exact TopR.one (by omega) this (by decide) (by omega)
  obtain ⟨b, y, z1, z2⟩ := core_C hrec hbad ⟨h2, hCx, h6, h5, hT4, ht⟩ hc
  rw [z1]
  rcases z2 with z2 | ⟨rfl, p2, c2, ph2, j2, s2, E2, W2, m2, z2, z3, z4, z5, z6⟩
  · -- broken
    cases b
    · show Ctr _ _ _ _ _ _ _ _ _ _ _ _ _ _ _ _ _ (FinN _ 0 y) _ _
      rw [finF]
      exact badC ⟨y, rfl, z2.pre hfl h8 h1 hbn.1 (by omega) h9⟩
    · show Ctr _ _ _ _ _ _ _ _ _ _ _ _ _ _ _ _ _ (FinN _ 1 y) _ _
      unfold FinN
      rw [if_neg (by decide)]
      by_cases hk2 : kk % 2 = 0
      · rw [hk2, if_pos (show nI 0 = 0 from rfl)]
        exact ⟨true, y, rfl, .inl (z2.pre hfl h8 h1 hbn.1 (by omega) h9)⟩
      · have hpp : p < p' := by
          rcases h10 with ⟨rfl, rfl⟩ | ⟨k1, k2, k3, k4, k5⟩
          · exact absurd rfl hk2
          · exact k5
        obtain ⟨b, y', w1, w2⟩ := addBad (v := -6) hld hpp hA hbn z2 hfl h8 h9
        rw [if_neg (nI_ne0 (by omega) (by omega))]
        dsimp only [ltt]
        rw [show gR y 5 1 = ls from (z2.gR 5 1).trans hR1, if_pos hlB, w1]
        refine ⟨b, y', ?_, .inl w2⟩
        cases b <;> rfl
  · have hp2 := z2.1.1
    have hl2 := z2.2.2.2.2.2.2.1
    have hb2 := z2.1.2.bn
    show Ctr _ _ _ _ _ _ _ _ _ _ _ _ _ _ _ _ _ (FinN _ 1 y) _ _
    unfold FinN
    rw [if_neg (by decide)]
    rcases h10 with ⟨rfl, rfl⟩ | ⟨k1, k2, k3, k4, k5⟩
    · rw [if_pos (show nI (0 % 2) = 0 from rfl)]
      obtain ⟨w1, w2, w3, w4, w5, w6, w7, w8, w9⟩ := z2
      exact ⟨true, y, rfl, .inr ⟨rfl, p2, c2, ph2, j2 + j, s2, E2, W2, m2, ⟨w1, h3.tr w2 (Nat.le_refl _), h4'.tr w3 (Nat.le_refl _) (Nat.le_refl _) (Nat.le_refl _), w4, w5, w6, w7, by omega, fun N => by rw [← Nat.add_assoc, h9, w9]⟩, z3, z4, fun w hw => by have := z5 w hw; omega, by omega⟩⟩
    · have hMI : MI t n ls ib p A B D q bs k pr p' c 0 1 j [] (List.replicate kk 22) x m x1 m1 := by
        refine ⟨⟨k5, h2⟩, h3, h4', ?_, ⟨fun i hi' => absurd hi' (Nat.not_lt_zero _), h6⟩, ⟨fun i hi' => absurd hi' (Nat.not_lt_zero _), h7⟩, ⟨?_, ?_⟩, h8, h9⟩
        · rw [List.length_replicate]; exact h5
        · show 0 + 1 ≤ p' - p; omega
        · rw [List.length_replicate]; show 0 + kk ≤ p' - p; omega
      have tM : tkM (3, kk) = pW (List.replicate kk 22) := by
        show List.replicate kk (22, 0) = (List.replicate kk 22).map _
        rw [List.map_replicate]; rfl
      have fin : ∀ y', ((tkX (3, kk) = [] ∧ y' = y) ∨ ∃ v, tkX (3, kk) = [v] ∧ y' = adX ls (A + (cX []).length + (cX s2).length) v y) → Gd t n ls ib p A B D q bs k pr (2 + 5 * D) 3 16 true Psf x m y' := by
        intro y' hy
        have := PS.bin hld hMI (by rw [List.length_replicate]; exact z2) (3, kk) tM y' hy
        refine ⟨p2, c2, ph2, _, _, _, _, m2, this, Ex.not z3, z4, fun w hw => ?_, ?_⟩
        · rw [List.mem_append] at hw
          rcases hw with hw | hw
          · have := z5 w hw; omega
          · rw [List.mem_replicate] at hw
            rw [hw.2]; exact ⟨by decide, by decide⟩
        · rw [List.length_append, List.length_replicate]; omega
      by_cases hk2 : kk % 2 = 0
      · rw [hk2, if_pos (show nI 0 = 0 from rfl)]
        refine ⟨true, y, rfl, .inr ⟨rfl, fin y (.inl ⟨?_, rfl⟩)⟩⟩
        show (if kk % 2 = 1 then [(-6 : Int32)] else []) = []
        rw [if_neg (by omega)]
      · rw [if_neg (nI_ne0 (by omega) (by omega))]
        dsimp only [ltt]
        rw [show gR y 5 1 = ls from (z2.2.1.2.1 5 1).trans hR1, if_pos hlB, add_X z2.2.2.2.2.1.2 (by omega)]
        refine ⟨true, _, rfl, .inr ⟨rfl, fin _ (.inr ⟨-6, ?_, rfl⟩)⟩⟩
        show (if kk % 2 = 1 then [(-6 : Int32)] else []) = [-6]
        rw [if_pos (by omega)]
theorem fact_L (hrec : D < 8 → TestC t n ls ib (D + 1) rec) (hbad : D < 8 → BadF t n ls ib (rec (nI (D + 1)))) (hfb : BadF t n ls ib (fun y => f_X5_fact_47 rec (nI D) 0 y) ∧ BadF t n ls ib (fun y => f_X5_fact_47 rec (nI D) 1 y)) (hC : Cx n ls ib p A B D q bs k 8 x) (hTp : TopR 3 bs q m) (ht : tst k = true) :
    ∀ d N i kk p' c j x' m', n - p' ≤ d → d + 1 < N → i + 1 ≤ p' → NS t n ls ib p A B D q bs k pr kk p' c j x m x' m' → Ctr t n ls ib p A B D q bs k pr (2 + 5 * D) 3 16 true Psf (f_X5_fact_4 rec N (nI D) (nI (kk % 2)) (nI i) x') x m := by
  have hld := hC.1
  have hls := land_o hld
  have lkS : ∀ {kk p' c j x' m'}, NS t n ls ib p A B D q bs k pr kk p' c j x m x' m' → ∃ a e l v x1, f_X6_look x' = some (nI c, x1) ∧ NS t n ls ib p A B D q bs k pr kk p' c j x m x1 m' ∧ TS t n p' c a e l v x1 m' := by
    intro kk p' c j x' m' h
    obtain ⟨⟨h1, h2⟩, h3, h4', h5, h6, h7, h8, h10⟩ := h
    obtain ⟨a, e, l, v, x1, e1, e2, e3, hT⟩ := h2.lk
    exact ⟨a, e, l, v, x1, e1, ⟨⟨h1, hT.nxc⟩, h3.tr (XFr.tt e2) (Nat.le_refl _), h4', h5, (e2.1 _ _ (by omega) (by omega)).trans h6, h7, h8, h10⟩, hT⟩
  intro d
  induction d with
  | zero =>
    intro N i kk p' c j x' m' hd hN hi h
    obtain ⟨N, rfl⟩ : ∃ k, N = k + 1 := ⟨N - 1, by omega⟩
    obtain ⟨a, e, l, v, x1, e1, h1, hT⟩ := lkS h
    have hbn := h.1.2.bn
    have hB := hT.2.2.1.b
    have hcE : c = 302 := by omega
    rw [e_X5_fact_4, if_neg (show ¬ (1600 : Int32) ≤ nI i from nI_ge (b := 1600) (by omega) (by omega)), e1]
    dsimp only [Option.bind]
    rw [if_neg (by rw [hcE]; decide)]
    exact factE hrec hbad hC hTp ht h1 (by omega)
  | succ d ih =>
    intro N i kk p' c j x' m' hd hN hi h
    obtain ⟨N, rfl⟩ : ∃ k, N = k + 1 := ⟨N - 1, by omega⟩
    obtain ⟨a, e, l, v, x1, e1, h1, hT⟩ := lkS h
    have hbn := h.1.2.bn
    have hcl := hT.cl
    rw [e_X5_fact_4, if_neg (show ¬ (1600 : Int32) ≤ nI i from nI_ge (b := 1600) (by omega) (by omega)), e1]
    dsimp only [Option.bind]
    by_cases hc : c = 416
    · subst hc
      obtain ⟨k1, k2, k3⟩ := not_S hC h1 hT ht
      rw [if_pos (show nI 416 = (416 : Int32) from rfl), k1]
      dsimp only
      have par : (if nI (kk % 2) = 0 then f_X5_fact_4 rec N (nI D) 1 (nI i + 1) (sI x1 3 7 0) else f_X5_fact_4 rec N (nI D) 0 (nI i + 1) (sI x1 3 7 0)) = f_X5_fact_4 rec N (nI D) (nI ((kk + 1) % 2)) (nI (i + 1)) (sI x1 3 7 0) := by
        by_cases z : kk % 2 = 0
        · rw [z, if_pos (show nI 0 = 0 from rfl), show (kk + 1) % 2 = 1 by omega, nI_1]; rfl
        · rw [if_neg (nI_ne0 (by omega) (by omega)), show (kk + 1) % 2 = 0 by omega, nI_1]; rfl
      rw [par]
      rcases k3 with k3 | ⟨c2, m2, k3⟩
      · obtain ⟨N', rfl⟩ : ∃ k, N = k + 1 := ⟨N - 1, by omega⟩
        rw [e_X5_fact_4]
        obtain ⟨y, y1, y2⟩ := k3.lk hld
        have hf : ∀ w, (w = 0 ∨ w = 1) → ∀ b' z, BadR t n p A ls ib b' x m z → Ctr t n ls ib p A B D q bs k pr (2 + 5 * D) 3 16 true Psf (f_X5_fact_47 rec (nI D) (nI w) z) x m := by
          intro w hw b' z hz
          rcases hw with rfl | rfl
          · obtain ⟨u, u1, u2⟩ := hfb.1 _ _ _ _ _ _ hz
            exact badC ⟨u, u1, u2⟩
          · obtain ⟨u, u1, u2⟩ := hfb.2 _ _ _ _ _ _ hz
            exact badC ⟨u, u1, u2⟩
        by_cases z : (1600 : Int32) ≤ nI (i + 1)
        · rw [if_pos z]; exact hf _ (by omega) _ _ k3
        · rw [if_neg z, y1]
          dsimp only [Option.bind]
          rw [if_neg (by decide)]
          exact hf _ (by omega) _ _ y2
      · exact ih N (i + 1) (kk + 1) e c2 (j + 1) (sI x1 3 7 0) m2 (by omega) (by omega) (by omega) k3
    · rw [if_neg (show ¬ nI c = (416 : Int32) from nI_ne (k := 416) hcl (by omega) hc)]
      exact factE hrec hbad hC hTp ht h1 hc
theorem fact47_F (hld : isLand ls) (d x2 : Int32) : BadF t n ls ib (fun y => f_X5_fact_47 rec d x2 y) := by
  intro p A b x m x' h
  obtain ⟨y, e1, e2⟩ := h.lk hld
  obtain ⟨z, z1, z2⟩ := cmp_F hld d _ _ _ _ _ _ e2
  refine ⟨z, ?_, z2⟩
  show f_X5_fact_47 rec d x2 x' = _
  rw [e47, e1]
  dsimp only [Option.bind]
  rw [if_neg (by decide), e2.look]
  dsimp only
  rw [if_neg (by decide), z1]
  rfl
theorem fact_F (hld : isLand ls) (d : Int32) : BadF t n ls ib (f_X5_fact rec d) := by
  intro p A b x m x' h
  obtain ⟨y, e1, e2⟩ := h.lk hld
  obtain ⟨N, hFU⟩ := FU_1
  obtain ⟨z, z1, z2⟩ := fact47_F (rec := rec) hld d 0 _ _ _ _ _ _ e2
  refine ⟨z, ?_, z2⟩
  have z1' : f_X5_fact_47 rec d 0 y = some (0, z) := z1
  rw [e_X5_fact, hFU, e_X5_fact_4, if_neg (by decide), e1]
  dsimp only [Option.bind]
  rw [if_neg (by decide), z1']
theorem fact_C {c : Nat} (hrec : D < 8 → TestC t n ls ib (D + 1) rec) (hbad : D < 8 → BadF t n ls ib (rec (nI (D + 1)))) (h : PreT t n ls ib p c A B D q bs k pr 3 8 x m) : Ctr t n ls ib p A B D q bs k pr (2 + 5 * D) 3 16 true Psf (f_X5_fact rec (nI D) x) x m := by
  obtain ⟨hN, hC, h9, hM, hTp, ht⟩ := h
  have hbn := hN.bn
  have hp := hC.2.2
  rw [e_X5_fact]
  exact fact_L hrec hbad ⟨fact47_F hC.1 _ _, fact47_F hC.1 _ _⟩ hC hTp ht 1600 FU 0 0 p c 0 x m (by omega) (by rw [FU_eq]; omega) (by omega) ⟨⟨Nat.le_refl _, hN⟩, XFr.rf _ _ _, MF.rf _ _ _ _ _, hM, h9, trivial, ⟨by omega, fun N => rfl⟩, .inl ⟨rfl, rfl⟩⟩
end Nt
