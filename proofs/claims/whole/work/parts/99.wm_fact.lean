/-! ===== a law is read: facts ===== -/
def PreT (t : Nat → Nat) (n ls ib p c A B D q bs k : Nat) (pr : Int32) (r cc : Nat) (x m : St) : Prop := NXc t n p c x m ∧ Cx n ls ib p A B D q bs k cc x ∧ gI x ls 9 = nI A ∧ LSt ib B D q bs k 0 1 pr false m ∧ TopR r bs q m ∧ tst k = true
def Psf (ph c : Nat) : Prop := 1 ≤ ph ∧ ph ≤ 2 ∧ (ph = 2 ∨ ¬ ari c)
def TestC (t : Nat → Nat) (n ls ib D : Nat) (f : Int32 → St → Option (Int32 × St)) : Prop := ∀ p c A B q bs k pr x m, PreT t n ls ib p c A B D q bs k pr 1 0 x m → Ctr t n ls ib p A B D q bs k pr (5 * D) 1 24 true (fun ph c => Psf ph c ∧ c ≠ 414 ∧ c ≠ 415) (f (nI D) x) x m
def FinN (x2 b : Int32) (y : St) : Option (Int32 × St) := if b = 0 then some ((0 : Int32), y) else (if x2 = 0 then (some ((1 : Int32), y)) else (ltt (gR y 5 1) fun g20 => if landB g20 = true then ((f_X4_addCode g20 (-6 : Int32) y).bind fun q21 => if q21.1 = 0 then (some ((0 : Int32), q21.2)) else (some ((1 : Int32), q21.2))) else none))
theorem f166 (rec : Int32 → St → Option (Int32 × St)) (x2 b : Int32) (y : St) : f_X5_fact_166 rec x2 b y = FinN x2 b y := e_X5_fact_166 rec x2 b y
theorem f133 (rec : Int32 → St → Option (Int32 × St)) (x1 x2 s0 : Int32) (σ : St) : f_X5_fact_133 rec x1 x2 s0 σ = (cmT x1 s0 σ).bind fun q => FinN x2 q.1 q.2 := by
  rw [e_X5_fact_133]
  unfold cmT
  simp only [f166]
  by_cases h0 : s0 = 0
  · rw [if_pos h0, if_pos h0]; rfl
  · rw [if_neg h0, if_neg h0]
    cases f_X5_sum 24 x1 σ with
    | none => rfl
    | some q1 =>
      dsimp only [Option.bind, ltt]
      by_cases h1 : q1.1 = 0
      · rw [if_pos h1, if_pos h1]
      · rw [if_neg h1, if_neg h1]
        by_cases h2 : landB (gR q1.2 5 1) = true
        · rw [if_pos h2, if_pos h2]
          cases f_X4_addCode (gR q1.2 5 1) s0 q1.2 with
          | none => rfl
          | some q3 =>
            dsimp only
            by_cases h3 : q3.1 = 0
            · rw [if_pos h3, if_pos h3]
            · rw [if_neg h3, if_neg h3]
        · rw [if_neg h2, if_neg h2]
theorem f47c (rec : Int32 → St → Option (Int32 × St)) (x1 x2 : Int32) (σ : St) : ((f_X5_sum 24 x1 σ).bind fun q7 => if q7.1 = 0 then (f_X5_fact_133 rec x1 x2 (0 : Int32) q7.2) else ((f_X5_comparisonSign q7.2).bind fun q8 => f_X5_fact_133 rec x1 x2 q8.1 q8.2)) = (cmpF x1 σ).bind fun q => FinN x2 q.1 q.2 := by
  unfold cmpF
  simp only [f133]
  cases f_X5_sum 24 x1 σ with
  | none => rfl
  | some q1 =>
    dsimp only [Option.bind]
    by_cases h1 : q1.1 = 0
    · rw [if_pos h1, if_pos h1, cmT0]
    · rw [if_neg h1, if_neg h1]
      cases f_X5_comparisonSign q1.2 with
      | none => rfl
      | some q2 => rfl
theorem e47 (rec : Int32 → St → Option (Int32 × St)) (x1 x2 : Int32) (σ : St) : f_X5_fact_47 rec x1 x2 σ = (f_X6_look σ).bind fun q1 => if q1.1 = (417 : Int32) then ((f_X5_step (1 : Int32) q1.2).bind fun q2 => FinN x2 q2.1 q2.2) else ((f_X6_look q1.2).bind fun q3 => if q3.1 = (91 : Int32) then ((f_X5_bracket x1 q3.2).bind fun q4 => if q4.1 = 0 then FinN x2 (0 : Int32) q4.2 else ((rec (x1 + (1 : Int32)) q4.2).bind fun q5 => if q5.1 = 0 then FinN x2 (0 : Int32) q5.2 else ((f_X5_token (93 : Int32) q5.2).bind fun q6 => if q6.1 = 0 then FinN x2 (0 : Int32) q6.2 else FinN x2 (1 : Int32) q6.2))) else ((cmpF x1 q3.2).bind fun q => FinN x2 q.1 q.2)) := by
  rw [e_X5_fact_47]
  simp only [f166, f47c]
section Fc
variable {t : Nat → Nat} {n ls ib p A B D q bs k : Nat} {pr : Int32} {x m x' m' x1 m1 x3 m3 : St} {rec : Int32 → St → Option (Int32 × St)}
theorem finF (x2 : Int32) (y : St) : FinN x2 0 y = some (0, y) := by unfold FinN; rw [if_pos rfl]
/-- a test in brackets -/
theorem brk_C {a e v : Nat} {l : List Nat} (hrec : D < 8 → TestC t n ls ib (D + 1) rec) (hbad : D < 8 → BadF t n ls ib (rec (nI (D + 1)))) (hC : Cx n ls ib p A B D q bs k 9 x1) (h9 : gI x1 ls 9 = nI A) (hM : LSt ib B D q bs k 0 1 pr false m) (ht : tst k = true) (hT : TS t n p 91 a e l v x1 m) :
    ∃ b y, (∀ x2, f_X5_fact_47 rec (nI D) x2 x1 = FinN x2 (bi b) y) ∧ (BadR t n p A ls ib b x1 m y ∨ (b = true ∧ Gd t n ls ib p A B D q bs k pr (2 + 5 * D) 4 12 true Psf x1 m y)) := by
  obtain ⟨hld, hR, hn, hi, hD, hb, hA, hBq, hp, h4, hk⟩ := id hC
  have hls := land_o hld
  have hbn := hT.nxc.bn
  have h48 : gI m 0 48 = 0 := hM.2.2.2.2.2.1
  have hM0 := hM.s28 (b := 0)
  have hT0 : TS t n p 91 a e l v x1 (sI m 28 D (nI 0)) := hT.c (S3.rf _) (S0.s (by omega))
  have f0 : ∀ D', D' ≤ D → MF ib B D' q m (sI m 28 D (nI 0)) := fun D' hD' => MF.s (by unfold MFx; omega)
  have hop : f_X11_operand m = ((f_X11_opens (5 : Int32) (sI m 28 D (nI 0))).bind fun q307 => some ((0 : Int32), q307.2)) := by
    obtain ⟨g38, g37, g44, g45, g47, g48, g26, g27, g28, g29, g30⟩ := hM
    have w1 : f_X11_isWord 7237492 m = some (0, m) := hT.w0 16 (by omega) (by omega)
    have s91 : f_X11_isSign 91 (sI m 28 D (nI 0)) = some (1, sI m 28 D (nI 0)) := hT0.s1 91 (by omega) rfl
    rw [e_X11_operand]
    dsimp only [ltt]
    rw [g44, nI_pred, if_pos (inb_nI (by omega) (by omega)), ix_nI (by omega), g26, tst_M hk, ht]
    dsimp only [Option.bind]
    rw [bT, if_pos (inb_nI (by omega) (by omega)), g28, if_neg (show ¬ nI 1 = 0 by decide), if_neg (by decide), w1]
    dsimp only
    rw [if_pos rfl, e_X11_operand_60, if_pos (inb_nI (by omega) (by omega)), ix_nI (by omega)]
    dsimp only [ltt]
    rw [if_neg (by decide), show (0 : Int32) &&& 1 = nI 0 from rfl, s91]
    dsimp only [Option.bind]
    rw [if_neg (by decide)]
  have lk := hT.look
  have Y : ∀ x2, f_X5_fact_47 rec (nI D) x2 x1 = _ := fun x2 => e47 rec (nI D) x2 x1
  simp only [lk] at Y
  dsimp only [Option.bind] at Y
  simp only [show ¬ nI 91 = (417 : Int32) by decide, if_false, lk, show nI 91 = (91 : Int32) from rfl, show ¬ (91 : Int32) = 417 by decide, if_true] at Y
  by_cases hD8 : D < 8
  · obtain ⟨m2, o1, o2, o3, o4, o5, o6, o7⟩ := opens_S (k2 := 5) hT0 (by omega) hM0 hD8
    rw [show (5 : Int32) = nI 5 from rfl, o1] at hop
    dsimp only [Option.bind] at hop
    have L2 := o7.s48 (b := false)
    have n2 : NX t n e (sI x1 3 7 0) (sI m2 0 48 (bi false)) := o5.c (S3.rf _) (S0.s (by omega))
    have hen := n2.2.1
    have f2 : ∀ D', D' ≤ D → MF ib B D' q m (sI m2 0 48 (bi false)) := fun D' hD' => ((f0 D' hD').tr o6 (Nat.le_refl _) (by omega) (Nat.le_refl _)).tr (MF.s (by unfold MFx; omega) : MF ib B D' q _ _) (Nat.le_refl _) (Nat.le_refl _) (Nat.le_refl _)
    have xs9 : gI (sI x1 3 7 0) ls 9 = nI A := (o3.1 _ _ (by omega) (by omega)).trans h9
    have xsR : gR (sI x1 3 7 0) 5 1 = ls := (o3.2.1 5 1).trans hR
    have xsX : XFr ls A x1 (sI x1 3 7 0) := XFr.tt o3
    have hfl : BF ls ib x1 m (sI x1 3 7 0) (sI m2 0 48 (bi false)) := xsX.fl hld (f2 D (Nat.le_refl _)) hi (by omega)
    have br : f_X5_bracket (nI D) x1 = some (1, sI x1 3 7 0) := by
      rw [e_X5_bracket, if_pos (show nI D < (8 : Int32) from nI_lt (b := 8) hD8 (by omega)), o2]; rfl
    simp only [br, z10, if_false, nI_1] at Y
    rcases NXc.of n2 with ⟨c2, n2'⟩ | n2'
    · have hgood : gI m2 0 8 = 0 := by have := n2'.e8; rw [ge_n (by omega)] at this; exact this
      have hst : ∀ N, f_X11_reads_43 (N + 1) 1 m = f_X11_reads_43 N 1 (sI m2 0 48 (bi false)) := fun N => by rw [rd_op (b := false) N h48 hop, if_pos hgood]
      have hC1 : Cx n ls ib e A B (D + 1) q q 5 0 (sI x1 3 7 0) := ⟨hld, xsR, hn, hi, by omega, Nat.le_refl _, by omega, by omega, by omega, by omega, by omega⟩
      obtain ⟨b3, x3, r1, r2⟩ := hrec hD8 e c2 A B q q 5 _ (sI x1 3 7 0) (sI m2 0 48 (bi false)) ⟨n2', hC1, xs9, L2, .inl rfl, rfl⟩
      simp only [r1] at Y
      rcases r2 with r2 | ⟨rfl, p3, c3, ph3, j3, s2, E2, W2, m3, r2, r3, ⟨⟨r4, r4', r4''⟩, r41, r42⟩, r5, r6⟩
      · have r2' := r2.pre (p := p) (A := A) (j1 := 1) hfl (by omega) (by omega) hen (by omega) hst
        cases b3
        · refine ⟨false, x3, fun x2 => ?_, .inl r2'⟩
          rw [Y x2, bF]; exact (finF x2 x3).symm
        · obtain ⟨y, t1, t2⟩ := r2'.tok (due := 93) hld (by omega) (by omega)
          refine ⟨false, y, fun x2 => ?_, .inl t2⟩
          rw [Y x2, bT, show (93 : Int32) = nI 93 from rfl, t1]
          dsimp only
          rw [if_pos rfl]; exact (finF x2 y).symm
      · obtain ⟨a4, e4, l4, v4, x4, k1, k2, k3⟩ := r2.lk hld
        have hL3 := k2.2.2.2.1
        have h409 := to409 k3 hL3 (by omega) (by omega) (by omega) r4'' (fun _ => ⟨r4, r41, r42⟩)
        have hb3 := k2.1.2.bn
        have hp3 := k2.1.1
        have hl3 := k2.2.2.2.2.2.2.1
        by_cases hc3 : c3 = 93
        · obtain ⟨m5, z1, z2, z3, z4, z5, z6, z7, z8⟩ := closeS (k := k) (ph := 0) (pr := pr) (bs := bs) hC1 (by omega) k2 k3 h409 (.inr (.inr rfl)) (by rw [if_pos rfl]; exact hc3) r5 (by omega) ⟨(ge_n (by omega)).trans ((o6.1 _ _ (by unfold MFx; omega)).trans hM0.2.2.2.2.2.2.1), (ge_n (by omega)).trans ((o6.1 _ _ (by unfold MFx; omega)).trans hM0.2.2.2.2.2.2.2.1), (ge_n (by omega)).trans ((o6.1 _ _ (by unfold MFx; omega)).trans hM0.2.2.2.2.2.2.2.2.1), (ge_n (by omega)).trans ((o6.1 _ _ (by unfold MFx; omega)).trans hM0.2.2.2.2.2.2.2.2.2.1), (ge_n (by omega)).trans ((o6.1 _ _ (by unfold MFx; omega)).trans hM0.2.2.2.2.2.2.2.2.2.2)⟩ [] (by rw [if_neg (by decide)]) (by omega)
          rw [if_pos rfl, List.append_nil] at z8
          rw [List.append_nil] at z7
          have hen4 := z5.2.1
          have fin := endS (x := x1) (m := m) (p := p) (A := A) (B := B) (D := D) (q := q) (bs := bs) (k := k) (pr := pr) (j1 := j3 + 1) (p3 := p3) (s := s2) (E := cM s2) hld hi (by omega) hA (by have := k2.2.2.2.2.2.2.2.1; omega) (fun N => by rw [← Nat.add_assoc, hst, k2.2.2.2.2.2.2.2.2]) hL3.2.2.2.2.2.1 z1 ((xsX.tr k2.2.1 (Nat.le_refl _)).tr (XFr.tt z3) (Nat.le_refl _)) (by omega) z4 z5 ((f2 D (Nat.le_refl _)).tr z6 (Nat.le_refl _) (Nat.le_refl _) (Nat.le_refl _)) z8 (fun i hi' => (z3.1 _ _ (by omega) (by omega)).trans (k2.2.2.2.2.1.1 i hi')) ((z3.1 _ _ (by omega) (by omega)).trans k2.2.2.2.2.1.2) z7 rfl (by omega) (by omega)
          have tk : f_X5_token (93 : Int32) x3 = some (1, sI x4 3 7 0) := by rw [e_X5_token, k1]; dsimp only [Option.bind]; rw [if_pos (by rw [hc3]; rfl), z2]
          refine ⟨true, sI x4 3 7 0, fun x2 => ?_, ?_⟩
          · rw [Y x2, bT, tk]
            dsimp only
            exact if_neg (show ¬ (1 : Int32) = 0 by decide)
          rcases fin with fin | ⟨c', fin⟩
          · exact .inl fin
          · exact .inr ⟨rfl, e4, c', 2, _, s2, _, [], m5, fin, r3.w (by omega), ⟨by omega, by omega, .inl rfl⟩, fun w hw => (by cases hw), by simp only [List.length_nil]; omega⟩
        · obtain ⟨x5, z1, z2⟩ := closeF hC1 k2 k3 h409 (.inr (.inr (.inr rfl))) (by rw [if_pos rfl]; exact hc3)
          have z3 := z2.pre (p := p) (A := A) (j1 := 1) hfl (by omega) (by omega) hen (by omega) hst
          have tk : f_X5_token (93 : Int32) x3 = some (0, x5) := by rw [e_X5_token, k1]; dsimp only [Option.bind]; rw [if_neg (show ¬ nI c3 = (93 : Int32) from nI_ne (k := 93) k3.cl (by omega) hc3), z1]; rfl
          refine ⟨false, x5, fun x2 => ?_, .inl z3⟩
          rw [Y x2, bT, tk]
          dsimp only
          rw [if_pos rfl]; exact (finF x2 x5).symm
    · have hbadm : ¬ gI m2 0 8 = 0 := by rw [ge_n (by omega)] at n2'; exact n2'
      have hB1 : BadR t n p A ls ib true x1 m (sI x1 3 7 0) := by
        refine ⟨sI m2 0 48 (bi false), 2, by omega, fun N => ?_, hfl, n2', A, xs9, by omega, .inr ⟨rfl, e, n2, by omega, by omega⟩⟩
        rw [show N + 2 = N + 1 + 1 from rfl, rd_op (b := false) (N + 1) h48 hop, if_neg hbadm, rd_0]
      obtain ⟨y, y1, y2⟩ := hbad hD8 _ _ _ _ _ _ hB1
      refine ⟨false, y, fun x2 => ?_, .inl y2⟩
      rw [Y x2, y1]
      dsimp only
      rw [if_pos rfl]; exact (finF x2 y).symm
  · obtain ⟨x5, m5, a1, a2, a3, a4, a5, a6, -⟩ := hT0.fail (k := 5) (by decide)
    have hD' : D = 8 := by omega
    rw [e_X11_opens, hM0.2.2.2.1, if_pos (by rw [hD']; rfl), show (5 : Int32) = nI 5 from rfl, a2] at hop
    dsimp only [Option.bind] at hop
    rw [if_neg a6.f.2.1] at hop
    have br : f_X5_bracket (nI D) x1 = some (0, x5) := by
      rw [e_X5_bracket, if_neg (show ¬ nI D < (8 : Int32) from nI_nlt (b := 8) (by omega) (by omega)), show (5 : Int32) = nI 5 from rfl, a1]; rfl
    refine ⟨false, x5, fun x2 => ?_, .inl (opFail (b := false) (D := D) (B := B) (q := q) hld hi (by omega) h48 hop (XFr.tt a3) ((f0 D (Nat.le_refl _)).tr (MF.tt a4) (Nat.le_refl _) (Nat.le_refl _) (Nat.le_refl _)) a6 ((a3.1 _ _ (by omega) (by omega)).trans h9) (by omega))⟩
    rw [Y x2, br]
    dsimp only
    rw [if_pos rfl]; exact (finF x2 x5).symm
theorem core_C {c : Nat} (hrec : D < 8 → TestC t n ls ib (D + 1) rec) (hbad : D < 8 → BadF t n ls ib (rec (nI (D + 1)))) (h : PreT t n ls ib p c A B D q bs k pr 4 9 x m) (hc : c ≠ 416) :
    ∃ b y, (∀ x2, f_X5_fact_47 rec (nI D) x2 x = FinN x2 (bi b) y) ∧ (BadR t n p A ls ib b x m y ∨ (b = true ∧ Gd t n ls ib p A B D q bs k pr (2 + 5 * D) 4 12 true Psf x m y)) := by
  obtain ⟨hN, hC, h9, hM, hTp, ht⟩ := h
  obtain ⟨a, e, l, v, x1, e1, e2, e3, hT⟩ := hN.lk
  obtain ⟨hld, hR, hn, hi, hD, hb, hA, hBq, hp, h4, hk⟩ := id hC
  have hls := land_o hld
  have hlB := landB_of hld
  have hcl := hT.cl
  have hbn := hT.nxc.bn
  have h91 : gI x1 ls 9 = nI A := (e2.1 _ _ (by omega) (by omega)).trans h9
  have hR1 : gR x1 5 1 = ls := (e2.2.1 5 1).trans hR
  have hC1 : Cx n ls ib p A B D q bs k 9 x1 := ⟨hld, hR1, hn, hi, hD, hb, hA, hBq, hp, h4, hk⟩
  have same : ∀ x2, f_X5_fact_47 rec (nI D) x2 x = f_X5_fact_47 rec (nI D) x2 x1 := fun x2 => by
    rw [e47, e47, e1, hT.look]
  have back : ∀ {b y}, (BadR t n p A ls ib b x1 m y ∨ (b = true ∧ Gd t n ls ib p A B D q bs k pr (2 + 5 * D) 4 12 true Psf x1 m y)) → (BadR t n p A ls ib b x m y ∨ (b = true ∧ Gd t n ls ib p A B D q bs k pr (2 + 5 * D) 4 12 true Psf x m y)) := by
    intro b y z
    rcases z with z | ⟨z, p', c', ph, j, s, E, W, m', z1, z2⟩
    · obtain ⟨m', j, h1, h2, h3, z⟩ := z
      exact .inl ⟨m', j, h1, h2, (BF.tt e2 (TM.rf _)).tr h3, z⟩
    · obtain ⟨w1, w2, w3⟩ := z1
      exact .inr ⟨z, p', c', ph, j, s, E, W, m', ⟨w1, (XFr.tt e2).tr w2 (Nat.le_refl _), w3⟩, z2⟩
  by_cases c91 : c = 91
  · subst c91
    obtain ⟨b, y, z1, z2⟩ := brk_C hrec hbad hC1 h91 hM ht hT
    exact ⟨b, y, fun x2 => (same x2).trans (z1 x2), back z2⟩
  by_cases c17 : c = 417
  · have hT0 : TS t n p c a e l v x1 (sI m 28 D (nI 0)) := hT.c (S3.rf _) (S0.s (by omega))
    have hop : f_X11_operand m = ((f_X11_add 9 0 (sI m 28 D (nI 0))).bind fun q5 => if 2 = 2 then (ltt (sI q5.2 27 D (nI 2)) fun σ => (f_X11_ahead σ).bind fun q6 => some ((1 : Int32), q6.2)) else (f_X11_ahead q5.2).bind fun q6 => some ((1 : Int32), q6.2)) := by
      obtain ⟨g38, g37, g44, g45, g47, g48, g26, g27, g28, g29, g30⟩ := hM
      have w1 : f_X11_isWord 7237492 m = some (0, m) := hT.w0 16 (by omega) (by omega)
      have s91 : f_X11_isSign 91 (sI m 28 D (nI 0)) = some (0, sI m 28 D (nI 0)) := hT0.s0 91 (by omega) (by omega)
      have w2 : f_X11_isWord 6384748 (sI m 28 D (nI 0)) = some (1, sI m 28 D (nI 0)) := hT0.w1 17 (by omega) c17
      rw [e_X11_operand]
      dsimp only [ltt]
      rw [g44, nI_pred, if_pos (inb_nI (by omega) (by omega)), ix_nI (by omega), g26, tst_M hk, ht]
      dsimp only [Option.bind]
      rw [bT, if_pos (inb_nI (by omega) (by omega)), g28, if_neg (show ¬ nI 1 = 0 by decide), if_neg (by decide), w1]
      dsimp only
      rw [if_pos rfl, e_X11_operand_60, if_pos (inb_nI (by omega) (by omega)), ix_nI (by omega)]
      dsimp only [ltt]
      rw [if_neg (by decide), show (0 : Int32) &&& 1 = nI 0 from rfl, s91]
      dsimp only [Option.bind]
      rw [if_pos rfl, if_neg (by decide), w2]
      dsimp only
      rw [if_neg (by decide)]
      simp only [if_true, inb_nI (show D < 20 by omega) (by omega)]
      rfl
    obtain ⟨z1, z2⟩ := leafS (r := 4) (wc := 12) (H := 2 + 5 * D) (Ψ := Psf) (ty := true) (s0 := 9) (v0 := 0) (v1 := 0) (u := 1) (tk := (2, 0)) (φ := 2) hC1 h91 (TX.rf _) hM hT (by omega) hop rfl rfl (fun _ => rfl) (Ex.all (by omega)) (fun z => absurd rfl z) (fun c' => ⟨by omega, by omega, .inl rfl⟩)
    refine ⟨true, _, fun x2 => ?_, back (z2.imp id (fun z => ⟨rfl, z⟩))⟩
    have sk : f_X6_skip x1 = some ((), sI x1 3 7 0) := rfl
    have g9 : gI (sI x1 3 7 0) ls 9 = nI A := (ge_n (by omega)).trans h91
    have hpe : p < e := hT.2.2.1.b.2.2.2.resolve_left (by omega)
    have st : f_X5_step 1 x1 = some (1, adX ls A 1 (sI x1 3 7 0)) := by
      rw [e_X5_step, sk]
      dsimp only [Option.bind, ltt]
      rw [show gR (sI x1 3 7 0) 5 1 = ls from hR1, if_pos hlB, add_X g9 (by have := hT.2.2.1.b; omega)]
      rfl
    rw [same, e47, hT.look]
    dsimp only [Option.bind]
    rw [if_pos (show nI c = (417 : Int32) by rw [c17]; rfl), st]
    rfl
  · obtain ⟨b, y, z1, z2⟩ := cmp_C (x := x1) ⟨hT.nxc, hC1, h91, hM, hTp, by omega, by omega, .inr (.inr ⟨hc, c91, c17⟩)⟩ ht
    refine ⟨b, y, fun x2 => ?_, back (z2.imp id (fun z => ⟨z.1, ?_⟩))⟩
    · rw [same, e47, hT.look]
      dsimp only [Option.bind]
      rw [if_neg (show ¬ nI c = (417 : Int32) from nI_ne (k := 417) hcl (by omega) c17), hT.look]
      dsimp only
      rw [if_neg (show ¬ nI c = (91 : Int32) from nI_ne (k := 91) hcl (by omega) c91), z1]
    · obtain ⟨-, p', c', ph, j, s, E, W, m', w1, w2, ⟨w3, w3'⟩, w4⟩ := z
      exact ⟨p', c', ph, j, s, E, W, m', w1, w2, ⟨by omega, by omega, .inr w3'⟩, w4⟩
end Fc
