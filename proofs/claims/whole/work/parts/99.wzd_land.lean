/-! ===== land ===== -/
section Ld
variable {ls ib ld bk n0 : Nat} {L : LD} {x m x' m' x'' m'' : St}
abbrev stX (n : Nat) (x : St) : St := sI (sI (sI (sI (sI (sI (sI x 3 2 (nI n)) 3 3 0) 3 4 0) 3 7 0) 3 8 0) 3 9 (-1)) 0 9 0
theorem begin_X {n : Nat} (hn : n ≤ 1600) (x : St) : f_X6_start (nI n) x = some ((), sI (sI (sI (sI (sI (sI x 3 2 (nI n)) 3 3 0) 3 4 0) 3 7 0) 3 8 0) 3 9 (-1)) := by
  rw [e_X6_start, show Int32.ofNat 1600 = nI 1600 from rfl, e_J9_min_7cf53, if_neg (nI_nlt (a := 1600) (by omega) (by omega))]
  dsimp only [Option.bind]
  rw [e_J9_max_7cf53]
  by_cases c : n = 0
  · subst c; rw [if_neg (by decide)]; rfl
  · rw [if_pos (show (0 : Int32) < nI n from nI_lt (a := 0) (by omega) (by omega))]; rfl
theorem UX.fl (h : UX ls x x') (g : FL ls ib x' m' x'' m'') : UX ls x x'' := ⟨fun o k z1 z2 z3 z4 => (g.1.1 o k z1 z2 z4).trans (h.1 o k z1 z2 z3 z4), fun o k z => (g.1.2.1 o k).trans (h.2.1 o k z), fun o k => (g.1.2.2.1 o k).trans (h.2.2 o k)⟩
theorem UM.fl (h : UM ib m m') (g : FL ls ib x' m' x'' m'') : UM ib m m'' := ⟨fun o k z1 z2 z3 => (g.2.1 o k z1 (by omega) z3).trans (h.1 o k z1 z2 z3), fun o k z1 z2 => (g.2.2 o k z1 z2).trans (h.2 o k z1 z2)⟩
theorem rel_fault {a b c d : Int32} (h1 : a = c) (h2 : b = d) (h : RelF x m) : RelF (sI (sI x 0 10 a) 0 11 b) (sI (sI m 0 10 c) 0 11 d) := by
  obtain ⟨⟨n, ⟨t1, t2, t3, t4⟩, hF, hR, ⟨s, s1, s2, s3⟩, ⟨q, q1, q2, q3, q4⟩⟩, hB⟩ := h
  refine ⟨⟨n, ⟨t1, (ge_n (by omega)).trans ((ge_n (by omega)).trans t2), (ge_n (by omega)).trans ((ge_n (by omega)).trans t3), fun i hi => ?_⟩, ⟨?_, ?_⟩, fun i hi => ?_, ⟨s, s1, s2, s3⟩, ⟨q, q1, (ge_n (by omega)).trans ((ge_n (by omega)).trans q2), (ge_n (by omega)).trans ((ge_n (by omega)).trans q3), fun i hi => ?_⟩⟩, ?_⟩
  · rw [ge_n (by omega), ge_n (by omega), ge_n (by omega), ge_n (by omega)]; exact t4 i hi
  · exact ((ge_n (by omega)).trans ge_s).trans (h1.trans ((ge_n (by omega)).trans ge_s).symm)
  · exact (ge_s).trans (h2.trans (ge_s).symm)
  · rw [ge_n (by omega), ge_n (by omega), ge_n (by omega), ge_n (by omega)]; exact hR i hi
  · rw [ge_n (by omega), ge_n (by omega), ge_n (by omega), ge_n (by omega)]; exact q4 i hi
  · exact congrB LWC_o _ _ _ _ (OffX.sI rfl) (OffM.sI rfl) (congrB LWC_o _ _ _ _ (OffX.sI rfl) (OffM.sI rfl) hB)
theorem step2 : Step_2 RelF := by
  intro x m hRel
  obtain ⟨ld, bk, L, hK, hCon⟩ := hRel.op
  obtain ⟨⟨n, hA⟩, hs, hb, hla, hw, hd⟩ := id hK
  obtain ⟨hn, e9, e1, hT⟩ := hA.1
  obtain ⟨ls, hls⟩ : ∃ ls, gR x 0 8 = ls := ⟨_, rfl⟩
  have hisl : isLand ls := hls ▸ hs.2.2.1
  have hne : ls ≠ ld := hls ▸ hs.2.2.2.1
  have hl := land_o hisl
  have hlB := landB_of hisl
  have hbk := hb.1
  obtain ⟨ib, hib⟩ : ∃ ib, ib + bk = 1 := ⟨1 - bk, by omega⟩
  have hib2 : ib < 2 := by omega
  -- the text
  obtain ⟨t, ht1, ht2⟩ : ∃ t : Nat → Nat, (∀ i, t i < 256) ∧ ∀ i, i < 1600 → gI x 1 i = nI (t i) ∧ gI m 1 i = nI (t i) := ⟨fun i => tb x i % 256, fun i => Nat.mod_lt _ (by omega), fun i hi => by
    obtain ⟨q1, q2, q3⟩ := tb_e hA hi
    show _ = nI (tb x i % 256) ∧ _ = nI (tb x i % 256)
    rw [Nat.mod_eq_of_lt q3]; exact ⟨q1, q2⟩⟩
  -- how it begins, here
  obtain ⟨x2, c1, c2, c3, c4, ⟨c5, c6, c7, c8, c9⟩, c10, c11, c12, c13, c14⟩ := clear_X hisl (sR (stX n x) 5 1 ls)
  have g2 : ∀ o k, o ≠ 3 → ¬ (o = 0 ∧ k = 9) → gI (sR (stX n x) 5 1 ls) o k = gI x o k := fun o k z1 z2 => (ge_n (by omega)).trans ((ge_n (by omega)).trans ((ge_n (by omega)).trans ((ge_n (by omega)).trans ((ge_n (by omega)).trans ((ge_n (by omega)).trans (ge_n (by omega)))))))
  have ux2 : UX ls x x2 := ⟨fun o k z1 z2 z3 z4 => (c2 o k (by omega) (by omega) (by omega) (by omega) (by omega)).trans (g2 o k z1 z3), fun o k z => (c3 o k).trans ((gR_sR _ 5 1 ls o k).trans (if_neg (by omega))), fun o k => (c4 o k)⟩
  have x51 : gR x2 5 1 = ls := (c3 5 1).trans ((gR_sR _ 5 1 ls 5 1).trans (if_pos ⟨rfl, rfl⟩))
  have x09 : gI x2 0 9 = 0 := (c2 0 9 (by omega) (by omega) (by omega) (by omega) (by omega)).trans (show gI (stX n x) 0 9 = 0 from ge_s)
  have g3 : ∀ k, gI x2 3 k = gI (stX n x) 3 k := fun k => c2 3 k (by omega) (by omega) (by omega) (by omega) (by omega)
  have x32 : gI x2 3 2 = nI n := (g3 2).trans ((ge_n (by omega)).trans ((ge_n (by omega)).trans ((ge_n (by omega)).trans ((ge_n (by omega)).trans ((ge_n (by omega)).trans ((ge_n (by omega)).trans ge_s))))))
  have x33 : gI x2 3 3 = nI 0 := (g3 3).trans ((ge_n (by omega)).trans ((ge_n (by omega)).trans ((ge_n (by omega)).trans ((ge_n (by omega)).trans ((ge_n (by omega)).trans ge_s)))))
  have x37 : gI x2 3 7 = 0 := (g3 7).trans ((ge_n (by omega)).trans ((ge_n (by omega)).trans ((ge_n (by omega)).trans ge_s)))
  have x38 : gI x2 3 8 = 0 := (g3 8).trans ((ge_n (by omega)).trans ((ge_n (by omega)).trans ge_s))
  have x39 : gI x2 3 9 = -1 := (g3 9).trans ((ge_n (by omega)).trans ge_s)
  have RX : f_X5_readLand ls (stX n x) = f_X5_readLand_14 ls FU 0 x2 := by
    rw [e_X5_readLand]
    dsimp only [ltt]
    rw [show gR (sR (stX n x) 5 1 ls) 5 1 = ls from (gR_sR _ 5 1 ls 5 1).trans (if_pos ⟨rfl, rfl⟩), if_pos hlB, c1]
    rfl
  -- .. and there
  obtain ⟨τ, d1, d2, d3, d4⟩ := beg_M (n := n) (ib := ib) hb e1 hib
  have gf : ∀ o k, ¬ ((o = 3 ∨ o = 9 ∨ o = 13 ∨ o = 16 ∨ o = 20 ∨ o = 23) ∧ k = ib) → ¬ (o = 0 ∧ k = 37) → gI (fnM ib τ) o k = gI τ o k := fun o k z1 z2 => (ge_n (by omega)).trans ((ge_n (by omega)).trans ((ge_n (by omega)).trans ((ge_n (by omega)).trans ((ge_n (by omega)).trans ((ge_n (by omega)).trans (ge_n (by omega)))))))
  have g0 : ∀ k, k ≠ 37 → gI (fnM ib τ) 0 k = gI (bgM n ib m) 0 k := fun k z => (gf 0 k (by omega) (by omega)).trans (d2 0 k (by omega))
  have gb : ∀ o k, ¬ (o = 0 ∧ (k = 1 ∨ k = 2 ∨ k = 5 ∨ k = 8 ∨ k = 9 ∨ k = 38)) → gI (bgM n ib m) o k = gI m o k := fun o k z => (ge_n (by omega)).trans ((ge_n (by omega)).trans ((ge_n (by omega)).trans ((ge_n (by omega)).trans ((ge_n (by omega)).trans (ge_n (by omega))))))
  have m01 : gI (fnM ib τ) 0 1 = 0 := (g0 1 (by omega)).trans ((ge_n (by omega)).trans ((ge_n (by omega)).trans ((ge_n (by omega)).trans ((ge_n (by omega)).trans ge_s))))
  have m02 : gI (fnM ib τ) 0 2 = nI n := (g0 2 (by omega)).trans ((ge_n (by omega)).trans ((ge_n (by omega)).trans ((ge_n (by omega)).trans ((ge_n (by omega)).trans ((ge_n (by omega)).trans ge_s)))))
  have m05 : gI (fnM ib τ) 0 5 = nI 0 := (g0 5 (by omega)).trans ((ge_n (by omega)).trans ((ge_n (by omega)).trans ((ge_n (by omega)).trans ge_s)))
  have m08 : gI (fnM ib τ) 0 8 = 0 := (g0 8 (by omega)).trans ((ge_n (by omega)).trans ((ge_n (by omega)).trans ge_s))
  have m09 : gI (fnM ib τ) 0 9 = -1 := (g0 9 (by omega)).trans ((ge_n (by omega)).trans ge_s)
  have m038 : gI (fnM ib τ) 0 38 = nI ib := (g0 38 (by omega)).trans ge_s
  have m037 : gI (fnM ib τ) 0 37 = nI 0 := ge_s
  have tm1 : ∀ i, i < 1600 → gI (fnM ib τ) 1 i = nI (t i) := fun i hi => (gf 1 i (by omega) (by omega)).trans ((d2 1 i (by omega)).trans ((gb 1 i (by omega)).trans (ht2 i hi).2))
  have um2 : UM ib m (fnM ib τ) := by
    refine ⟨fun o k z1 z2 z3 => ?_, fun o k _ _ => d3 o k⟩
    have q1 : ¬ ((o = 3 ∨ o = 9 ∨ o = 13 ∨ o = 16 ∨ o = 20 ∨ o = 23) ∧ k = ib) := by
      rintro ⟨ho, rfl⟩
      have : wd o = 1 := by rcases ho with rfl | rfl | rfl | rfl | rfl | rfl <;> rfl
      rw [this] at z3
      omega
    have q2 : ¬ ((o = 2 ∨ o = 12) ∧ 26 * ib ≤ k ∧ k < 26 * ib + 26) := by
      rintro ⟨ho, q⟩
      have : wd o = 26 := by rcases ho with rfl | rfl <;> rfl
      rw [this] at z3
      omega
    have q3 : ¬ (o = 0 ∧ (k = 2 ∨ k = 5 ∨ k = 8 ∨ k = 9 ∨ k = 38 ∨ k = 37)) := by
      rintro ⟨rfl, q⟩
      rcases q with rfl | rfl | rfl | rfl | rfl | rfl <;> cases z1
    exact (gf o k q1 (by omega)).trans ((d2 o k q2).trans (gb o k (by omega)))
  -- the first word
  have hTp : ∀ m3, TM (fnM ib τ) m3 → JM m3 → Tp t n x2 m3 := fun m3 z1 z2 => ⟨ht1, hn, ⟨fun i hi => (ux2.1 1 i (by omega) (by omega) (by omega) (by omega)).trans (ht2 i hi).1, fun k hk => (ux2.1 4 k (by omega) (by omega) (by omega) (by omega)).trans (hs.2.2.2.2.2.2.2 k hk)⟩, fun i hi => (z1.1 1 i (by omega)).trans (tm1 i hi), fun _ => x39, z2⟩
  have hu : XU n 0 x2 := ⟨x32, x33, x37, x38⟩
  obtain ⟨m3, a1, a2, a3⟩ : ∃ m3, f_X11_ahead (fnM ib τ) = some ((), m3) ∧ TM (fnM ib τ) m3 ∧ NX t n 0 x2 m3 := by
    rcases lex_ex (t := t) (n := n) (p := 0) (.inl rfl) (by omega) with ⟨q, g⟩ | ⟨c', a', e', l', v', g⟩
    · obtain ⟨m1, k1, k2, k3, k4⟩ := ahead_br (fun i hi => tm1 i hi) ht1 hn m02 m05 m08 (.inl rfl) g
      exact ⟨m1, k1, k2, hTp m1 k2 (aheadJ (fun _ => m09) k1), by omega, .inl ⟨q, g, hu, k3, k4⟩⟩
    · obtain ⟨m1, k1, k2, k3, k4⟩ := ahead_ok (fun i hi => tm1 i hi) ht1 hn m02 m05 m08 (.inl rfl) g
      exact ⟨m1, k1, k2, hTp m1 k2 (aheadJ (fun _ => m09) k1), by omega, .inr ⟨c', a', e', l', v', g, .inl hu, k3, k4⟩⟩
  have gm : ∀ o k, ¬ (o = 0 ∧ 3 ≤ k ∧ k ≤ 9) → gI m3 o k = gI (fnM ib τ) o k := fun o k z => a2.1 o k z
  have hRP : RP ls ib ((0, 0, 0, 0, 0), fun _ => [], fun _ => [], fun _ => []) x2 m3 0 0 := by
    refine ⟨⟨hisl, hib2, x51, (gm 0 38 (by omega)).trans m038, fun r hr => ?_⟩, ⟨⟨by show 0 ≤ 8; omega, c5, ?_⟩, fun p hp => absurd hp (Nat.not_lt_zero _)⟩, ⟨⟨by show 0 ≤ 12; omega, c6, ?_⟩, fun p hp => absurd hp (Nat.not_lt_zero _)⟩, ⟨⟨by show 0 ≤ 6; omega, c7, ?_⟩, fun p hp => absurd hp (Nat.not_lt_zero _)⟩, ⟨⟨by show 0 ≤ 4; omega, c9, ?_⟩, fun p hp => absurd hp (Nat.not_lt_zero _)⟩, fun k hk => ⟨10, by omega, by omega, c10 k hk, ?_⟩, fun k hk => ⟨0, by omega, c11 k hk, ?_⟩, ⟨fun p hp => absurd hp (Nat.not_lt_zero _), fun p _ hp => c12 p hp⟩, ⟨0, by omega, c14, ?_⟩, ⟨by show 0 ≤ 8; omega, c8, ?_⟩, c13, ?_, fun i hi => absurd hi (Nat.not_lt_zero _)⟩
    · have hr' := roll_o hr
      rw [ux2.1 r 0 (by omega) (by omega) (by omega) (by omega), ux2.1 r 1 (by omega) (by omega) (by omega) (by omega)]
      exact hs.2.2.2.2.1 r hr
    · exact (gm _ _ (by omega)).trans ((ge_n (by omega)).trans ((ge_n (by omega)).trans ((ge_n (by omega)).trans ((ge_n (by omega)).trans ((ge_n (by omega)).trans ((ge_n (by omega)).trans ge_s))))))
    · exact (gm _ _ (by omega)).trans ((ge_n (by omega)).trans ((ge_n (by omega)).trans ((ge_n (by omega)).trans ((ge_n (by omega)).trans ((ge_n (by omega)).trans ge_s)))))
    · exact (gm _ _ (by omega)).trans ((ge_n (by omega)).trans ((ge_n (by omega)).trans ((ge_n (by omega)).trans ((ge_n (by omega)).trans ge_s))))
    · exact (gm _ _ (by omega)).trans ((ge_n (by omega)).trans ((ge_n (by omega)).trans ge_s))
    · exact (gm _ _ (by omega)).trans ((gf _ _ (by omega) (by omega)).trans (d4 k hk).1)
    · exact (gm _ _ (by omega)).trans ((gf _ _ (by omega) (by omega)).trans (d4 k hk).2)
    · exact (gm _ _ (by omega)).trans ((ge_n (by omega)).trans ge_s)
    · exact (gm _ _ (by omega)).trans ((ge_n (by omega)).trans ((ge_n (by omega)).trans ((ge_n (by omega)).trans ge_s)))
    · exact (gm _ _ (by omega)).trans m037
  -- the text is read
  obtain ⟨x4, m4, f1, f2⟩ := loopL (t := t) (n := n) (ls := ls) (ib := ib) hisl ls (n + 1) 0 0 FU FU x2 m3 (by omega) (by rw [FU_eq]; omega) (by rw [FU_eq]; omega) (by omega) a3 (fun _ => ⟨_, 0, 0, by omega, by omega, hRP⟩)
  have ux4 : UX ls x x4 := ux2.fl f1
  have um3 : UM ib m m3 := by
    refine ⟨fun o k z1 z2 z3 => (gm o k (fun q => ?_)).trans (um2.1 o k z1 z2 z3), fun o k z1 z2 => (a2.2 o k z1).trans (um2.2 o k z1 z2)⟩
    obtain ⟨rfl, q1, q2⟩ := q
    have := mS_k z1
    omega
  have um4 : UM ib m m4 := um3.fl f1
  have x049 : gI x4 0 9 = 0 := (f1.1.1 0 9 (by omega) (by omega) (by omega)).trans x09
  have m041 : gI m4 0 1 = 0 := (f1.2.1 0 1 rfl (by omega) (by rw [show wd 0 = 0 from rfl]; omega)).trans ((gm 0 1 (by omega)).trans m01)
  have X := e_X10_land x
  have M := d1
  rw [e9, begin_X hn] at X
  rw [a1] at M
  dsimp only [Option.bind, ltt] at X M
  rw [show gR (stX n x) 0 8 = ls from hls, if_pos hlB, RX] at X
  unfold EnL at f2
  rcases f2 with ⟨k1, ⟨w, k2⟩, k3⟩ | ⟨k', L', A, B, k1, k2, k3, k4, k5, k6, k7, ⟨k8, k9⟩, hR4⟩
  · -- not told
    have k1' : f_X5_readLand_14 ls FU 0 x2 = some (-1, x4) := k1
    have k2' : f_X11_land_154 FU 0 m3 = tlM w m4 := k2
    obtain ⟨kd, hkd, q1, q2, q3⟩ := k3
    rw [k1'] at X
    rw [k2'] at M
    unfold tlM at M
    dsimp only [ltt] at X M
    have n1 : gI (sI (sI m4 0 10 (gI m4 0 8)) 0 11 (gI (sI m4 0 10 (gI m4 0 8)) 0 9)) 0 8 = nI kd := (ge_n (by omega)).trans ((ge_n (by omega)).trans q2)
    have cn : ∀ σ, f_X10_counted (-1) 1 σ = some (-1, sI σ 2 1 (gI σ 2 1 + 1)) := fun σ => cnt_X (k := 1) (by omega) σ
    have rf : ∀ σ, f_X11_refuses 1 σ = some (-1, sI σ 32 1 (gI σ 32 1 + 1)) := fun σ => rf_M (k := 1) (by omega) σ
    rw [if_pos rfl, cn] at X
    rw [if_neg (by rw [n1]; exact nI_nle (by omega) (by omega)), rf] at M
    refine ⟨-1, _, _, X, M, ?_⟩
    have hq : RelF x4 m4 := keepK (ib := ib) hK hCon (by rw [hls]; exact ux4) um4 hib x049 m041
    refine refuseF ?_ (by omega)
    refine rel_fault ?_ ?_ hq
    · rw [q1, q2]
    · rw [ge_n (by omega), ge_n (by omega)]; exact q3
  · -- told
    have k2' : f_X5_readLand_14 ls FU 0 x2 = ((f_X4_weighTitles ls x4).bind fun q => some (nI k', q.2)) := k2
    have k3' : f_X11_land_154 FU 0 m3 = tlM (nI k') m4 := k3
    obtain ⟨x5, w1, w2, w3, w4, w5⟩ := wt_X hR4
    rw [k2', w1] at X
    rw [k3'] at M
    unfold tlM at M
    dsimp only [Option.bind, ltt] at X M
    have u5 : gI x5 3 8 = 0 := (w2 _ _ (by omega)).trans k5
    have u6 : gI (sI x5 0 10 (gI x5 3 8)) 3 9 = -1 := (ge_n (by omega)).trans ((w2 _ _ (by omega)).trans k6)
    have n5 : gI (sI (sI m4 0 10 (gI m4 0 8)) 0 11 (gI (sI m4 0 10 (gI m4 0 8)) 0 9)) 0 8 = 0 := (ge_n (by omega)).trans ((ge_n (by omega)).trans k4)
    have n6 : gI (sI m4 0 10 (gI m4 0 8)) 0 9 = -1 := (ge_n (by omega)).trans k7
    have n7 : gI (sI (sI m4 0 10 (gI m4 0 8)) 0 11 (gI (sI m4 0 10 (gI m4 0 8)) 0 9)) 0 38 = nI ib := (ge_n (by omega)).trans ((ge_n (by omega)).trans hR4.1.2.2.2.1)
    rw [if_neg (nI_ne1 (by omega)), u5, show gI (sI x5 0 10 0) 3 9 = -1 by rw [← u5]; exact u6] at X
    rw [if_pos (by rw [n5]; decide), n7, k4, show gI (sI m4 0 10 0) 0 9 = -1 by rw [← k4]; exact n6] at M
    have r6 : ∀ o k, o ≠ 5 → gR (sI (sI x5 0 10 0) 0 11 (-1)) o k = gR x o k := fun o k z => (w3 o k).trans (ux4.2.1 o k z)
    rw [show gR (sI (sI x5 0 10 0) 0 11 (-1)) 6 0 = ld from (r6 6 0 (by omega)).trans hs.1, if_pos (landB_of hs.2.1), show gR (sI (sI x5 0 10 0) 0 11 (-1)) 0 8 = ls from (r6 0 8 (by omega)).trans hls, if_pos hlB] at X
    obtain ⟨x6, v1, v2, ⟨v3, v3'⟩, v4, v5, v6, v7, v8, v9, v10⟩ := settle_X hisl (sI (sI x5 0 10 0) 0 11 (-1))
    have hnp := hR4.2.1.1.1
    obtain ⟨m6, b1, b2, b3, b4, b5, b6, b7, b8, b9⟩ := begins_M (m := sI (sI (sI m4 0 10 0) 0 11 (-1)) 0 12 (nI ib)) (np := L'.np) hib2 ge_s ((ge_n (by omega)).trans ((ge_n (by omega)).trans ((ge_n (by omega)).trans hR4.2.1.1.2.2))) hnp
    rw [b1] at M
    dsimp only at M
    have X' : f_X10_land x = some (nI k', sR x6 0 8 ld) := by
      rw [X]
      cases hse : f_X2_settle ls (sI (sI x5 0 10 0) 0 11 (-1)) with
      | none => rw [hse] at v1; cases v1
      | some q =>
        rw [hse] at v1
        have v1' : f_X1_forget q.2 = some ((), x6) := v1
        dsimp only
        rw [v1']
    have h6x : ∀ o k, 34 ≤ o → gI x6 o k = gI x5 o k := fun o k z => (v2 o k (by omega) (by omega) (by omega) (by omega) (by omega) (by omega)).trans ((ge_n (by omega)).trans (ge_n (by omega)))
    have h6m : ∀ o k, o ≠ 35 → o ≠ 36 → o ≠ 43 → o ≠ 0 → gI m6 o k = gI m4 o k := fun o k z1 z2 z3 z4 => (b2 o k z1 z2 z3 (by omega)).trans ((ge_n (by omega)).trans ((ge_n (by omega)).trans (ge_n (by omega))))
    have h60 : ∀ k, k ≠ 10 → k ≠ 11 → k ≠ 12 → k ≠ 52 → k ≠ 55 → k ≠ 56 → k ≠ 60 → k ≠ 62 → k ≠ 64 → gI m6 0 k = gI m4 0 k := fun k z1 z2 z3 z4 z5 z6 z7 z8 z9 => (b2 0 k (by omega) (by omega) (by omega) (by omega)).trans ((ge_n (by omega)).trans ((ge_n (by omega)).trans (ge_n (by omega))))
    have h6y : ∀ o k, o ≠ 6 → o ≠ 7 → o ≠ 8 → o ≠ 10 → ¬ ((o = 13 ∨ o = 19) ∧ (k = 3 ∨ k = 4)) → ¬ (o = 21 ∧ k = 4) → o < 34 → ¬ (o = 0 ∧ (k = 10 ∨ k = 11)) → gI x6 o k = gI x4 o k := fun o k z1 z2 z3 z4 z5 z6 z7 z8 => (v2 o k z1 z2 z3 z4 z5 z6).trans ((ge_n (by omega)).trans ((ge_n (by omega)).trans (w2 o k (by omega))))
    have hA4 := hA.u ux4 um4 hisl x049 m041
    refine ⟨nI k', sR x6 0 8 ld, m6, X', M, ?_⟩
    refine newK (x := x4) (m := m4) (ls := ls) (ib := ib) (L := L') hR4 k8 k9 ?_ ?_ ⟨hib2, ?_⟩ (fun o k z1 z2 z3 => (h6x o k (by omega)).trans (w2 o k z3)) (fun t ht => (h6x _ _ (by omega)).trans (w5 t ht)) (fun o k z1 z2 => h6m o k (by omega) (by omega) (by omega) (by omega)) (fun o k _ => b3 o k)
      ⟨v5.1.trans ((ge_n (by omega)).trans ((ge_n (by omega)).trans (w2 _ _ (by omega)))), v5.2.1, v5.2.2⟩ (fun p hp => (v6 p hp).trans ((ge_n (by omega)).trans ((ge_n (by omega)).trans (w2 _ _ (by omega))))) v7 (fun j hj => (v8 j hj).trans ((ge_n (by omega)).trans ((ge_n (by omega)).trans (w2 _ _ (by omega))))) (fun j hj => (v9 j hj).trans ((ge_n (by omega)).trans ((ge_n (by omega)).trans (w2 _ _ (by omega))))) v10
      (b4.trans ((ge_n (by omega)).trans ((ge_n (by omega)).trans (ge_n (by omega))))) (fun p hp => (b5 p hp).trans (by rw [ge_n (by omega), ge_n (by omega), ge_n (by omega)])) (fun j hj => (b6 j hj).trans ((ge_n (by omega)).trans ((ge_n (by omega)).trans (ge_n (by omega))))) b7 (fun j hj => (b8 j hj).trans ((ge_n (by omega)).trans ((ge_n (by omega)).trans (ge_n (by omega))))) b9
    · obtain ⟨⟨-, z1, z2, z3⟩, z4, z5, ⟨s, z6, z7, z8⟩, ⟨q, z9, z10, z11, z12⟩⟩ := hA4
      refine ⟨⟨by omega, (h6y 0 9 (by omega) (by omega) (by omega) (by omega) (by omega) (by omega) (by omega) (by omega)).trans z1, (h60 1 (by omega) (by omega) (by omega) (by omega) (by omega) (by omega) (by omega) (by omega) (by omega)).trans z2, fun i hi => ?_⟩, ⟨?_, ?_⟩, fun i hi => ?_, ⟨s, z6, ?_, (b3 0 67).trans z8⟩, ⟨q, z9, ?_, ?_, fun i hi => ?_⟩⟩
      · obtain ⟨b, hb', y1, y2⟩ := z3 i hi
        exact ⟨b, hb', (h6y 1 i (by omega) (by omega) (by omega) (by omega) (by omega) (by omega) (by omega) (by omega)).trans y1, (h6m 1 i (by omega) (by omega) (by omega) (by omega)).trans y2⟩
      · exact ((v2 0 10 (by omega) (by omega) (by omega) (by omega) (by omega) (by omega)).trans ((ge_n (by omega)).trans ge_s)).trans ((b2 0 10 (by omega) (by omega) (by omega) (by omega)).trans ((ge_n (by omega)).trans ((ge_n (by omega)).trans ge_s))).symm
      · exact ((v2 0 11 (by omega) (by omega) (by omega) (by omega) (by omega) (by omega)).trans ge_s).trans ((b2 0 11 (by omega) (by omega) (by omega) (by omega)).trans ((ge_n (by omega)).trans ge_s)).symm
      · exact (h6y 2 i (by omega) (by omega) (by omega) (by omega) (by omega) (by omega) (by omega) (by omega)).trans ((z5 i hi).trans (h6m 32 i (by omega) (by omega) (by omega) (by omega)).symm)
      · exact (v4 18 4).trans ((w4 18 4).trans z7)
      · exact (h6y 32 1 (by omega) (by omega) (by omega) (by omega) (by omega) (by omega) (by omega) (by omega)).trans z10
      · exact (h60 72 (by omega) (by omega) (by omega) (by omega) (by omega) (by omega) (by omega) (by omega) (by omega)).trans z11
      · exact (h6y 33 i (by omega) (by omega) (by omega) (by omega) (by omega) (by omega) (by omega) (by omega)).trans ((z12 i hi).trans (h6m 45 i (by omega) (by omega) (by omega) (by omega)).symm)
    · obtain ⟨-, -, -, -, y5, y6, y7, y8⟩ := RSt.u hs (by rw [hls]; exact ux4)
      refine ⟨(gR_sR x6 0 8 ld 6 0).trans ((if_neg (by omega)).trans v3), hisl, ?_, ?_, fun r hr => ?_, ?_, ?_, fun k hk => ?_⟩
      · rw [show gR (sR x6 0 8 ld) 0 8 = ld from (gR_sR x6 0 8 ld 0 8).trans (if_pos ⟨rfl, rfl⟩)]; exact hs.2.1
      · rw [show gR (sR x6 0 8 ld) 0 8 = ld from (gR_sR x6 0 8 ld 0 8).trans (if_pos ⟨rfl, rfl⟩)]; exact fun z => hne z.symm
      · have hr' := roll_o hr
        have q : ∀ k, k < 2 → gI x6 r k = gI x4 r k := fun k hk => (v2 r k (by omega) (by omega) (by omega) (by omega) (by omega) (by omega)).trans ((ge_n (by omega)).trans ((ge_n (by omega)).trans (w2 r k (by omega))))
        exact ⟨(q 0 (by omega)).trans (y5 r hr).1, (q 1 (by omega)).trans (y5 r hr).2⟩
      · exact ⟨(h6y 13 0 (by omega) (by omega) (by omega) (by omega) (by omega) (by omega) (by omega) (by omega)).trans y6.1, (h6y 13 1 (by omega) (by omega) (by omega) (by omega) (by omega) (by omega) (by omega) (by omega)).trans y6.2⟩
      · exact ⟨(h6y 19 0 (by omega) (by omega) (by omega) (by omega) (by omega) (by omega) (by omega) (by omega)).trans y7.1, (h6y 19 1 (by omega) (by omega) (by omega) (by omega) (by omega) (by omega) (by omega) (by omega)).trans y7.2⟩
      · exact (h6y 4 k (by omega) (by omega) (by omega) (by omega) (by omega) (by omega) (by omega) (by omega)).trans (y8 k hk)
    · exact (b2 0 12 (by omega) (by omega) (by omega) (by omega)).trans ge_s
end Ld
