/-! ===== statements: the two halves of a law ===== -/
abbrev p0M (m : St) : St := sI (sI (sI (sI m 0 44 (nI 0)) 0 45 (nI 0)) 0 47 (nI 0)) 0 48 (nI 0)
abbrev psM (k : Nat) (m : St) : St := sI (sI (sI (sI (sI (p0M m) 26 0 (nI k)) 27 0 (nI 0)) 28 0 (nI 1)) 30 0 (nI 0)) 0 44 (nI 1)
def LwP (t : Nat → Nat) (n p ls ib A B : Nat) (ty b : Bool) (x m x' m' : St) : Prop := BF ls ib x m x' m' ∧ ((¬ gI m' 0 8 = 0 ∧ (Bd x' m' ∨ (b = true ∧ ∃ p', p ≤ p' ∧ NX t n p' x' m'))) ∨ (b = true ∧ gI m' 0 8 = 0 ∧ ∃ p' s, p < p' ∧ NX t n p' x' m' ∧ XFr ls A x x' ∧ MF ib B 0 0 m m' ∧ (CodeX x' (ls + 19) A (cX s) ∧ gI x' ls 9 = nI (A + (cX s).length)) ∧ (CodeM m' (1600 * ib + B) (cM s) ∧ gI m' 0 37 = nI (B + (cM s).length)) ∧ ((cX s).length ≤ p' - p ∧ (cM s).length ≤ p' - p) ∧ Ex s ty 0))
section Lw
variable {t : Nat → Nat} {n p ls ib A B : Nat} {L : LD} {x m y : St}
theorem NX.bd (h : NX t n p x m) (h0 : ¬ gI m 0 8 = 0) : ∃ y, f_X6_look x = some (303, y) ∧ TX x y ∧ Bd y m := by
  rcases h.lk with ⟨x1, e1, e2, e3, e4⟩ | ⟨c, a, e, l, v, x1, e1, e2, e3, hT⟩
  · exact ⟨x1, e1, e2, e4⟩
  · exact absurd hT.2.2.2.2.1 h0
theorem part_bad (e1 : f_X6_look x = some (303, y)) (hb : Bd y m) (rec : Int32 → St → Option (Int32 × St)) (d : Int32) : f_X5_part rec d x = some (0, y) := by
  rw [e_X5_part, e1]
  dsimp only [Option.bind]
  simp (config := { decide := true }) only [if_false]
  rw [hb.here]; rfl
theorem sum_bad (e1 : f_X6_look x = some (303, y)) (hb : Bd y m) (d : Int32) (dd : Nat) : f_X5_sum (dd + 1) d x = some (0, y) := by
  obtain ⟨N, hN⟩ := FU_1
  rw [ed_X5_sum, e_X5_sum, e_X5_product, part_bad e1 hb]
  dsimp only [Option.bind]
  rw [hN, prod0]
  dsimp only
  rw [sum0]
theorem fact_bad (e1 : f_X6_look x = some (303, y)) (hb : Bd y m) (rec : Int32 → St → Option (Int32 × St)) (d : Int32) : f_X5_fact rec d x = some (0, y) := by
  obtain ⟨N, hFU⟩ := FU_1
  rw [e_X5_fact, hFU, e_X5_fact_4, if_neg (by decide), e1]
  dsimp only [Option.bind]
  rw [if_neg (by decide), e47, hb.look]
  dsimp only [Option.bind]
  rw [if_neg (by decide), hb.look]
  dsimp only
  have cm : cmpF d y = some (0, y) := by
    unfold cmpF
    rw [sum_bad hb.look hb d 23]
    rfl
  rw [if_neg (by decide), cm]
  rfl
theorem test_bad (e1 : f_X6_look x = some (303, y)) (hb : Bd y m) (d : Int32) (dd : Nat) : f_X5_test (dd + 1) d x = some (0, y) := by
  obtain ⟨N, hFU⟩ := FU_1
  rw [ed_X5_test, e_X5_test, e_X5_both, fact_bad e1 hb]
  dsimp only [Option.bind]
  rw [hFU, both0]
  dsimp only
  rw [test0]
theorem tok_bad (e1 : f_X6_look x = some (303, y)) (hb : Bd y m) {k : Nat} (hk : k < 500) (h3 : k ≠ 303) : f_X5_token (nI k) x = some (0, y) := by
  rw [e_X5_token, e1]
  dsimp only [Option.bind]
  rw [if_neg (nI_303 hk h3), hb.here]; rfl
theorem push_0 (k : Nat) {w : St} (e : gI w 0 44 = nI 0) (e47 : gI w 0 47 = nI 0) : f_X11_pushes (nI k) w = some ((), sI (sI (sI (sI (sI w 26 0 (nI k)) 27 0 (nI 0)) 28 0 (nI 1)) 30 0 (nI 0)) 0 44 (nI 1)) := by
  rw [e_X11_pushes, e, if_pos (inb_nI (by omega) (by omega)), ix_nI (by omega)]
  dsimp only [ltt]
  rw [show gI (sI w 26 0 (nI k)) 0 44 = nI 0 from (ge_n (by omega)).trans e, if_pos (inb_nI (by omega) (by omega)), ix_nI (by omega), show gI (sI (sI w 26 0 (nI k)) 27 0 0) 0 44 = nI 0 from (ge_n (by omega)).trans ((ge_n (by omega)).trans e), if_pos (inb_nI (by omega) (by omega)), ix_nI (by omega), show gI (sI (sI (sI w 26 0 (nI k)) 27 0 0) 28 0 (1 &&& 1)) 0 44 = nI 0 from (ge_n (by omega)).trans ((ge_n (by omega)).trans ((ge_n (by omega)).trans e)), if_pos (inb_nI (by omega) (by omega)), ix_nI (by omega), show gI (sI (sI (sI w 26 0 (nI k)) 27 0 0) 28 0 (1 &&& 1)) 0 47 = nI 0 from (ge_n (by omega)).trans ((ge_n (by omega)).trans ((ge_n (by omega)).trans e47)), show gI (sI (sI (sI (sI w 26 0 (nI k)) 27 0 0) 28 0 (1 &&& 1)) 30 0 (nI 0)) 0 44 = nI 0 from (ge_n (by omega)).trans ((ge_n (by omega)).trans ((ge_n (by omega)).trans ((ge_n (by omega)).trans e))), nI_1]
  rfl
theorem push_S (k : Nat) (m : St) : f_X11_pushes (nI k) (p0M m) = some ((), psM k m) := push_0 k ((ge_n (by omega)).trans ((ge_n (by omega)).trans ((ge_n (by omega)).trans ge_s))) ((ge_n (by omega)).trans ge_s)
theorem reads_S {k : Nat} (hk : k < 2) (h0 : gI m 0 8 = 0) : f_X11_reads (nI k) m = f_X11_reads_43 FU 1 (psM k m) := by
  have hp := push_S k m
  rw [e_X11_reads, if_pos (by rw [h0]; decide)]
  dsimp only [ltt]
  rcases (by omega : k = 0 ∨ k = 1) with rfl | rfl
  · rw [if_pos (show nI 0 = (0 : Int32) from rfl)]
    show (f_X11_pushes (nI 0) (p0M m)).bind _ = _
    rw [hp]; rfl
  · rw [if_neg (by decide)]
    show (f_X11_pushes (nI 1) (p0M m)).bind _ = _
    rw [hp]; rfl
theorem psM_0 (k : Nat) (m : St) : S0 m (psM k m) := ((((((((S0.s (by omega)).tr (S0.s (by omega))).tr (S0.s (by omega))).tr (S0.s (by omega))).tr (S0.s (by omega))).tr (S0.s (by omega))).tr (S0.s (by omega))).tr (S0.s (by omega))).tr (S0.s (by omega))
theorem psM_f (k : Nat) (m : St) : MF ib B 0 0 m (psM k m) := by
  have st : ∀ {o j : Nat} {w : Int32} {u : St}, MFx ib B 0 0 o j → MF ib B 0 0 m u → MF ib B 0 0 m (sI u o j w) := fun h1 h2 => h2.tr (MF.s h1) (Nat.le_refl _) (Nat.le_refl _) (Nat.le_refl _)
  exact st (by unfold MFx; omega) (st (by unfold MFx; omega) (st (by unfold MFx; omega) (st (by unfold MFx; omega) (st (by unfold MFx; omega) (st (by unfold MFx; omega) (st (by unfold MFx; omega) (st (by unfold MFx; omega) (st (by unfold MFx; omega) (MF.rf _ _ _ _ _)))))))))
theorem psM_l {k : Nat} (h38 : gI m 0 38 = nI ib) (h37 : gI m 0 37 = nI B) : LSt ib B 0 0 0 k 0 1 (gI (psM k m) 29 0) false (psM k m) := by
  have g : ∀ o j, ¬ (o = 0 ∧ (j = 44 ∨ j = 45 ∨ j = 47 ∨ j = 48)) → ¬ (26 ≤ o ∧ o ≤ 30) → gI (psM k m) o j = gI m o j := fun o j h1 h2 => (ge_n (by omega)).trans ((ge_n (by omega)).trans ((ge_n (by omega)).trans ((ge_n (by omega)).trans ((ge_n (by omega)).trans ((ge_n (by omega)).trans ((ge_n (by omega)).trans ((ge_n (by omega)).trans (ge_n (by omega)))))))))
  refine ⟨(g _ _ (by omega) (by omega)).trans h38, (g _ _ (by omega) (by omega)).trans h37, ge_s, ?_, ?_, ?_, ?_, ?_, ?_, rfl, ?_⟩
  · exact (ge_n (by omega)).trans ((ge_n (by omega)).trans ((ge_n (by omega)).trans ((ge_n (by omega)).trans ((ge_n (by omega)).trans ((ge_n (by omega)).trans ((ge_n (by omega)).trans ge_s))))))
  · exact (ge_n (by omega)).trans ((ge_n (by omega)).trans ((ge_n (by omega)).trans ((ge_n (by omega)).trans ((ge_n (by omega)).trans ((ge_n (by omega)).trans ge_s)))))
  · exact (ge_n (by omega)).trans ((ge_n (by omega)).trans ((ge_n (by omega)).trans ((ge_n (by omega)).trans ((ge_n (by omega)).trans ge_s))))
  · exact (ge_n (by omega)).trans ((ge_n (by omega)).trans ((ge_n (by omega)).trans ((ge_n (by omega)).trans ge_s)))
  · exact (ge_n (by omega)).trans ((ge_n (by omega)).trans ((ge_n (by omega)).trans ge_s))
  · exact (ge_n (by omega)).trans ((ge_n (by omega)).trans ge_s)
  · exact (ge_n (by omega)).trans ge_s
theorem partL {c k H : Nat} {ty : Bool} {f : Option (Int32 × St)} (hk : k < 2) (h : NXc t n p c x m) (hl : isLand ls) (hR : gR x 5 1 = ls) (hib : ib < 2) (h38 : gI m 0 38 = nI ib) (h37 : gI m 0 37 = nI B) (hA : A ≤ p) (hB : B ≤ p)
    (hf : ∀ m1, NXc t n p c x m1 → LSt ib B 0 0 0 k 0 1 (gI m1 29 0) false m1 → Ctr t n ls ib p A B 0 0 0 k (gI m1 29 0) H 1 24 ty (fun ph c => ph ≤ 2 ∧ (ph = 2 ∨ ¬ ari c) ∧ (tst k = true → 1 ≤ ph ∧ c ≠ 414 ∧ c ≠ 415)) f x m1) :
    ∃ b x' m', f = some (bi b, x') ∧ f_X11_reads (nI k) m = some ((), m') ∧ LwP t n p ls ib A B ty b x m x' m' := by
  have hbn := h.bn
  have h0 := h.e8
  have f0 : MF ib B 0 0 m (psM k m) := psM_f k m
  have fB : BF ls ib x m x (psM k m) := (XFr.rf ls A x).fl hl f0 hib (by omega)
  obtain ⟨b, x', e1, e2⟩ := hf (psM k m) (h.cc (S3.rf _) (psM_0 k m)) (psM_l h38 h37)
  rw [reads_S hk h0]
  rcases e2 with ⟨m', j, j1, j2, j3, j4, A', j5, j6, j7⟩ | ⟨rfl, p', c', ph, j, s, E, W, m2, hPS, hEx, ⟨g1, g2, g3⟩, hW, hWl⟩
  · refine ⟨b, x', m', e1, ?_, fB.tr j3, .inl ⟨j4, ?_⟩⟩
    · have : FU = (FU - j) + j := by rw [FU_eq]; omega
      rw [this]; exact j2 _
    · rcases j7 with j7 | ⟨j7, p', j8, j9, -⟩
      · exact .inl j7
      · exact .inr ⟨j7, p', j9, j8⟩
  · obtain ⟨a, e, l, v, x1, l1, hPS1, hT⟩ := hPS.lk hl
    have hlen := hPS.nb
    have hnx := hPS.1.2
    have hbn' := hnx.bn
    obtain ⟨⟨q1, q2⟩, q3, q4, q5, q6, ⟨q8, q8', q8''⟩, ⟨q9, q9'⟩, q10, q11⟩ := hPS
    obtain ⟨m3, i1, i2, i3, i4, i5⟩ := joins_W (r := 1) (q := 0) (bs := 0) (D := 0) hib (by omega) (by omega) (by omega) W m2 (B + E.length) FU q5 q8' hW (.inl rfl) (by omega) (by omega) (by rw [FU_eq]; omega)
    have go : f_X11_goesOn m2 = some (bi false, m3) := by
      rw [to409 hT q5 (by omega) (by omega) g1 g2 g3, e_X11_goesOn_409, if_neg (show ¬ (2 : Int32) ≤ nI k from nI_ge (b := 2) hk (by omega)), if_pos hnx.e8, show (1 : Int32) = nI 1 from rfl, e_X11_joins, i1]; rfl
    have mf : MF ib B 0 0 m m3 := (f0.tr q4 (Nat.le_refl _) (Nat.le_refl _) (Nat.le_refl _)).tr i3 (by omega) (Nat.le_refl _) (Nat.le_refl _)
    refine ⟨true, x', m3, e1, ?_, (q3.fl hl mf hib (by omega)), .inr ⟨rfl, ?_, p', s, q1, ?_, q3, mf, q6, ⟨?_, ?_⟩, ⟨q9, q9'⟩, hEx.w (by omega)⟩⟩
    · obtain ⟨N, hN⟩ : ∃ N, FU = (N + 1 + 1) + j := ⟨FU - j - 2, by rw [FU_eq]; omega⟩
      rw [hN, q11, rd_go (N + 1) q5.2.2.2.2.2.1 go, if_pos rfl, rd_0]
    · exact (i4.2.1 8 (by omega) (by omega)).trans hnx.e8
    · exact (hnx.cc (S3.rf _) i4).nx
    · rw [q8'']
      exact (q8.kk i3 (Nat.le_refl _)).app (by rw [Nat.add_assoc]; exact i5)
    · rw [hlen, ← Nat.add_assoc]; exact i2.2.1
theorem sumL {c : Nat} (h : NXc t n p c x m) (hl : isLand ls) (hR : gR x 5 1 = ls) (hib : ib < 2) (h9 : gI x ls 9 = nI A) (h38 : gI m 0 38 = nI ib) (h37 : gI m 0 37 = nI B) (hA : A ≤ p) (hB : B ≤ p) (hp : 1 ≤ p) : ∃ b x' m', f_X5_sum 24 0 x = some (bi b, x') ∧ f_X11_reads 0 m = some ((), m') ∧ LwP t n p ls ib A B false b x m x' m' := by
  have hbn := h.bn
  refine partL (k := 0) (H := 3) (by omega) h hl hR hib h38 h37 hA hB (fun m1 k1 k2 => ?_)
  obtain ⟨b, x', e1, e2⟩ := sum_C (t := t) (n := n) (ib := ib) hl 24 0 (by omega) (by omega) p c A B 0 0 0 _ 0 1 x m1 ⟨k1, ⟨hl, hR, by omega, hib, by omega, by omega, hA, by omega, hp, by omega, by omega⟩, h9, k2, .inl rfl, by omega, by omega, .inr (.inl rfl)⟩
  refine ⟨b, x', e1, ?_⟩
  rcases e2 with e2 | ⟨e2, p', c', ph, j, s, E, W, m2, hPS, hEx, ⟨g1, g2⟩, hW, hWl⟩
  · exact .inl e2
  · exact .inr ⟨e2, p', c', ph, j, s, E, W, m2, hPS, hEx, ⟨by omega, .inr g2, fun z => by cases z⟩, fun w hw => ⟨by have := (hW w hw).1; omega, (hW w hw).2⟩, by omega⟩
theorem testL {c : Nat} (h : NXc t n p c x m) (hl : isLand ls) (hR : gR x 5 1 = ls) (hib : ib < 2) (h9 : gI x ls 9 = nI A) (h38 : gI m 0 38 = nI ib) (h37 : gI m 0 37 = nI B) (hA : A ≤ p) (hB : B ≤ p) (hp : 1 ≤ p) : ∃ b x' m', f_X5_test 24 0 x = some (bi b, x') ∧ f_X11_reads 1 m = some ((), m') ∧ LwP t n p ls ib A B true b x m x' m' := by
  have hbn := h.bn
  refine partL (k := 1) (H := 0) (by omega) h hl hR hib h38 h37 hA hB (fun m1 k1 k2 => ?_)
  obtain ⟨b, x', e1, e2⟩ := test_C (t := t) (n := n) (ib := ib) hl 24 0 (by omega) (by omega) p c A B 0 0 1 _ x m1 ⟨k1, ⟨hl, hR, by omega, hib, by omega, by omega, hA, by omega, hp, by omega, by omega⟩, h9, k2, .inl rfl, rfl⟩
  refine ⟨b, x', e1, ?_⟩
  rcases e2 with e2 | ⟨e2, p', c', ph, j, s, E, W, m2, hPS, hEx, ⟨⟨g1, g2, g3⟩, g4, g5⟩, hW, hWl⟩
  · exact .inl e2
  · exact .inr ⟨e2, p', c', ph, j, s, E, W, m2, hPS, hEx, ⟨g2, g3, fun _ => ⟨g1, g4, g5⟩⟩, hW, hWl⟩
end Lw
