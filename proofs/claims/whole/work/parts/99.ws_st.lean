/-! ===== statements: a title had; an age ===== -/
section As
variable {t : Nat → Nat} {n p ls ib A B : Nat} {L : LD} {x m : St}
theorem asked_b (kd : Int32) (h : ¬ gI m 0 8 ≤ 0) : f_X11_asked kd m = some (0, m) := by rw [e_X11_asked, if_neg h]
theorem asked37_b (kd : Int32) (h : ¬ gI m 0 8 ≤ 0) : f_X11_asked_37 kd m = some (0, m) := by
  rw [e_X11_asked_37, if_neg h, if_neg (fun z => h (by rw [z]; decide)), if_neg (fun z => h (by rw [z]; decide)), if_neg h]
theorem asked_n {c a e v : Nat} {l : List Nat} {x2 m2 : St} (kd : Int32) (hT : TS t n p c a e l v x m) (hc : c ≠ 300) (hf : f_X11_blame (nI 1) (gI m 0 4) m = some ((), m2)) (hb : Bd x2 m2) : f_X11_asked kd m = some (0, m2) := by
  have hf' : f_X11_blame 1 (gI m 0 4) m = some ((), m2) := hf
  rw [e_X11_asked, if_pos hT.le]
  rcases hT.nw hc with z | ⟨z1, z2⟩
  · rw [if_neg z, hf']; exact asked37_b kd hb.f.2.1
  · rw [if_pos z1, z2]
    dsimp only [Option.bind]
    rw [if_neg (by decide), hf']; exact asked37_b kd hb.f.2.1
theorem asked_y {c a e v : Nat} {l : List Nat} {fd kd : Int32} (hT : TS t n p c a e l v x m) (hc : c = 300) (hn : f_X11_named kd (lN (pk8 l)) m = some (fd, m)) : f_X11_asked kd m = if fd = -1 then ((f_X11_blame 3 (gI m 0 4) m).bind fun q2 => if (gI q2.2 0 8) = 0 then ((f_X11_ahead q2.2).bind fun q3 => if (gI q3.2 0 8) ≤ 0 then (some (fd, q3.2)) else (some ((0 : Int32), q3.2))) else (if (gI q2.2 0 8) ≤ 0 then (some (fd, q2.2)) else (some ((0 : Int32), q2.2)))) else ((f_X11_ahead m).bind fun q4 => if (gI q4.2 0 8) ≤ 0 then (some (fd, q4.2)) else (some ((0 : Int32), q4.2))) := by
  obtain ⟨n1, n2, n3, n4, n5⟩ := hT.nm hc
  rw [e_X11_asked, if_pos hT.le, if_pos n4, n5]
  dsimp only [Option.bind]
  rw [if_pos rfl, e_X11_asked_37, if_pos hT.le, n3, hn]
  dsimp only [Option.bind]
  rw [if_pos hT.2.2.2.2.1, if_pos hT.2.2.2.2.1]
theorem RP.hd (h : RP ls ib L x m A B) {j i c : Nat} (hj : j < L.np) (hi : i < L.nt) (hc : c < 2 ^ L.nt) : RP ls ib L (sI x (ls + 18) j (nI (c ||| 2 ^ i))) (sI m 8 (8 * ib + j) (nI (c ||| 2 ^ i))) A B := by
  obtain ⟨h0, h1, h2, h3, h4, h5, h6, h7, h8, h9⟩ := h
  have hl := land_o h0.1
  have hnp := h1.1.1
  refine ⟨h0.c rfl (ge_n (by omega)) (fun r j hr _ => ge_n (by have := roll_o hr; omega)), h1.c ⟨rfl, rfl⟩ (fun o k _ _ => ge_n (by omega)) (fun o k _ => ge_n (by omega)) (fun k => rfl), h2.c ⟨rfl, rfl⟩ (fun o k _ _ => ge_n (by omega)) (fun o k _ => ge_n (by omega)) (fun k => rfl), h3.c rfl (fun o k _ _ => ge_n (by omega)) (fun o k _ => ge_n (by omega)), h4.c ⟨rfl, rfl⟩ (fun o k _ _ => ge_n (by omega)) (fun o k _ => ge_n (by omega)) (fun k => rfl), h5.c (fun k => ge_n (by omega)) (fun k => ge_n (by omega)), h6.c (fun k => ge_n (by omega)) (fun k => ge_n (by omega)), ⟨fun p hp => ?_, fun p hp1 hp2 => (ge_n (by omega)).trans (h7.2 p hp1 hp2)⟩, h8.c (ge_n (by omega)) (ge_n (by omega)), h9.c rfl (fun o k _ => ge_n (by omega)) (fun o k _ => ge_n (by omega))⟩
  by_cases z : p = j
  · subst z
    exact ⟨_, Nat.or_lt_two_pow hc (Nat.pow_lt_pow_right (by omega) hi), ge_s, ge_s⟩
  · rw [ge_n (by omega), ge_n (by omega)]; exact h7.1 p hp
theorem stHad {c a e v : Nat} {l : List Nat} (hT : TS t n p c a e l v x m) (hc : c ≠ 302) (hP : RP ls ib L x m A B) (hA : A ≤ p) (hB : B ≤ p) : ∃ b x' m', f_X5_titleHad x = some (bi b, x') ∧ f_X11_having m = some ((), m') ∧ StOK t n p ls ib b x m x' m' := by
  have hl := land_o hP.1.1
  have hlB := landB_of hP.1.1
  have hib := hP.1.2.1
  obtain ⟨m1, a1, a2, a3, a4, p1, a5, a6⟩ := cntB hT hc
  have hP1 : RP ls ib L (sI x 3 7 0) m1 A B := hP.t a3 a4
  have hnp := hP.2.1.1.1
  have hnt := hP.2.2.1.1.1
  have X := e_X5_titleHad x
  have M := e_X11_having m
  rw [a1] at X
  rw [a2] at M
  dsimp only [Option.bind, ltt] at X M
  rw [hP1.1.2.2.1, if_pos hlB, e_X5_knownName] at X
  have fl1 : FL ls ib x m (sI x 3 7 0) m1 := FL.t a3 a4
  -- the person
  rcases a6.lk with ⟨x2, e1, e2, e3, e4⟩ | ⟨c2, a', e', l', v', x2, e1, e2, e3, hT2⟩
  · rw [e1] at X
    dsimp only [Option.bind] at X
    rw [if_neg (by decide), e4.here] at X
    rw [decide_eq_false e4.f.1, bF] at M
    exact ⟨false, x2, m1, X, M, fl1.tr (FL.t e2 (TM.rf _)), .inr ⟨rfl, e4⟩⟩
  have h0 := hT2.2.2.2.2.1
  rw [e1] at X
  dsimp only [Option.bind] at X
  rw [decide_eq_true h0, bT] at M
  have hP2 : RP ls ib L x2 m1 A B := hP1.t e2 (TM.rf _)
  have hcl2 := hT2.cl
  by_cases hc2 : c2 = 300
  rotate_left
  · obtain ⟨x3, m3, b1, b2, b3, b4, b5, b6, -⟩ := hT2.fail (k := 1) (by decide)
    rw [if_neg (show ¬ nI c2 = (300 : Int32) from nI_ne (k := 300) hcl2 (by omega) hc2), show (1 : Int32) = nI 1 from rfl, b1] at X
    rw [asked_n 0 hT2 hc2 b2 b6] at M
    dsimp only [Option.bind] at M
    rw [if_neg b6.f.1, e_X11_having_62, if_pos rfl, asked_b 1 b6.f.2.1] at M
    dsimp only [Option.bind] at M
    rw [if_neg b6.f.1] at M
    exact ⟨false, x3, m3, X, M, fl1.tr (FL.t (e2.tr b3) b4), .inr ⟨rfl, b6⟩⟩
  obtain ⟨n1, n2, n3, n4, n5⟩ := hT2.nm hc2
  rw [if_pos (by rw [hc2]; rfl), n2, f1_X hP2 n1] at X
  rw [asked_y hT2 hc2 (f1_M hP2 n1)] at M
  dsimp only [ltt] at X
  rw [show gI (sI x2 5 2 (fdN L.pn l' L.np 0)) 5 2 = fdN L.pn l' L.np 0 from ge_s] at X
  rcases fdN_c L.pn l' L.np 0 with hfd | ⟨j, hj, -, hfd⟩
  · have hT2' : TS t n p1 c2 a' e' l' v' (sI x2 5 2 (fdN L.pn l' L.np 0)) m1 := hT2.c (S3.s (by decide)) (S0.rf _)
    obtain ⟨x3, m3, b1, b2, b3, b4, b5, b6, -⟩ := hT2'.fail (k := 3) (by decide)
    rw [if_pos hfd, show (3 : Int32) = nI 3 from rfl, b1] at X
    rw [if_pos hfd, show (3 : Int32) = nI 3 from rfl, b2] at M
    dsimp only [Option.bind] at M
    rw [if_neg b6.f.1, if_neg b6.f.2.1] at M
    dsimp only [Option.bind] at M
    rw [if_neg b6.f.1, e_X11_having_62, if_pos rfl, asked_b 1 b6.f.2.1] at M
    dsimp only [Option.bind] at M
    rw [if_neg b6.f.1] at M
    exact ⟨false, x3, m3, X, M, fl1.tr (FL.t ((e2.tr TX.s5).tr b3) b4), .inr ⟨rfl, b6⟩⟩
  have hj' : j < L.np := by omega
  rw [hfd, if_neg (nI_ne1 (by omega))] at X M
  obtain ⟨m4, b1, b2, b3, b4, b5, b6, b7⟩ := (hT2.c (x' := sI x2 5 2 (nI j)) (m' := m1) (S3.s (by decide)) (S0.rf _)).adv (by omega)
  rw [b1] at X
  rw [b2] at M
  dsimp only [Option.bind] at X M
  rw [if_neg (by decide), show gI (sI (sI x2 5 2 (nI j)) 3 7 0) 5 2 = nI j from b4.trans ge_s] at X
  have flx : FL ls ib x m (sI (sI x2 5 2 (nI j)) 3 7 0) m4 := fl1.tr (FL.t ((e2.tr TX.s5).tr b3) b5)
  have hP4 : RP ls ib L (sI (sI x2 5 2 (nI j)) 3 7 0) m4 A B := hP2.t (TX.s5.tr b3) b5
  -- the title
  rcases b7.lk with ⟨x5, d1, d2, d3, d4⟩ | ⟨c5, a5', e5, l5, v5, x5, d1, d2, d3, hT5⟩
  · rw [d1] at X
    dsimp only at X
    rw [if_neg (by decide), d4.here] at X
    rw [if_neg d4.f.2.1] at M
    dsimp only [Option.bind] at M
    rw [if_neg d4.f.1, e_X11_having_62, if_pos rfl, asked_b 1 d4.f.2.1] at M
    dsimp only [Option.bind] at M
    rw [if_neg d4.f.1] at M
    exact ⟨false, x5, m4, X, M, flx.tr (FL.t d2 (TM.rf _)), .inr ⟨rfl, d4⟩⟩
  have hP5 : RP ls ib L x5 m4 A B := hP4.t d2 (TM.rf _)
  have hcl5 := hT5.cl
  have h05 := hT5.2.2.2.2.1
  rw [d1] at X
  dsimp only at X
  rw [if_pos hT5.le] at M
  dsimp only [Option.bind] at M
  rw [if_pos h05, hP1.1.2.2.2.1, show (8 : Int32) = nI 8 from rfl, pk_mul, nI_add] at M
  have win : inb (nI (8 * ib + j)) 16 = true := inb_nI (by omega) (by omega)
  have wix : ix (nI (8 * ib + j)) = 8 * ib + j := ix_nI (by omega)
  by_cases hc5 : c5 = 300
  rotate_left
  · obtain ⟨x6, m6, f1, f2, f3, f4, f5, f6, -⟩ := hT5.fail (k := 1) (by decide)
    rw [if_neg (show ¬ nI c5 = (300 : Int32) from nI_ne (k := 300) hcl5 (by omega) hc5), show (1 : Int32) = nI 1 from rfl, f1] at X
    have M' : f_X11_having m = f_X11_having_62 (nI (8 * ib + j)) (-1) m4 := by
      rw [M]
      rcases hT5.nw hc5 with z | ⟨z1, z2⟩
      · rw [if_neg z]
      · rw [if_pos z1, z2]; dsimp only; rw [if_neg (by decide)]
    rw [e_X11_having_62, if_pos rfl, asked_n 1 hT5 hc5 f2 f6] at M'
    dsimp only [Option.bind] at M'
    rw [if_neg f6.f.1] at M'
    exact ⟨false, x6, m6, X, M', flx.tr (FL.t (d2.tr f3) f4), .inr ⟨rfl, f6⟩⟩
  obtain ⟨k1, k2, k3, k4, k5⟩ := hT5.nm hc5
  rw [if_pos (by rw [hc5]; rfl), hP5.1.2.2.1, if_pos hlB, k2, f2_X hP5 k1] at X
  rw [if_pos k4, k5] at M
  dsimp only [Option.bind] at X M
  rw [if_pos rfl, k3, f2_M hP5 k1] at M
  dsimp only [Option.bind] at M
  rcases fdN_c L.tn l5 L.nt 0 with gfd | ⟨i, hi, -, gfd⟩
  · obtain ⟨x6, m6, f1, f2, f3, f4, f5, f6, -⟩ := hT5.fail (k := 3) (by decide)
    rw [if_pos gfd, show (3 : Int32) = nI 3 from rfl, f1] at X
    rw [gfd, e_X11_having_62, if_pos rfl, asked_y hT5 hc5 (f2_M hP5 k1), if_pos gfd, show (3 : Int32) = nI 3 from rfl, f2] at M
    dsimp only [Option.bind] at M
    rw [if_neg f6.f.1, if_neg f6.f.2.1] at M
    dsimp only [Option.bind] at M
    rw [if_neg f6.f.1] at M
    exact ⟨false, x6, m6, X, M, flx.tr (FL.t (d2.tr f3) f4), .inr ⟨rfl, f6⟩⟩
  have hi' : i < L.nt := by omega
  obtain ⟨cv, cv1, cv2, cv3⟩ := hP5.2.2.2.2.2.2.2.1.1 j hj'
  have cv4 : 2 ^ L.nt ≤ 2 ^ 12 := Nat.pow_le_pow_right (by omega) hnt
  rw [gfd, if_neg (nI_ne1 (by omega)), hP5.1.2.2.1, if_pos hlB, if_pos (inb_nI (by omega) (by omega)), ix_nI (by omega), cv2, bit_I (by omega) (by omega)] at X
  rw [gfd, e_X11_having_62, if_neg (nI_ne1 (by omega)), if_pos win, wix, cv3, bit_I (by omega) (by omega)] at M
  cases hbit : cv.testBit i with
  | true =>
    obtain ⟨x6, m6, f1, f2, f3, f4, f5, f6, -⟩ := hT5.fail (k := 3) (by decide)
    rw [hbit, bT, show (3 : Int32) = nI 3 from rfl, f1] at X
    rw [hbit, if_pos (show bi true = 1 from rfl), show (3 : Int32) = nI 3 from rfl, f2] at M
    dsimp only [Option.bind] at M
    rw [asked_b 1 f6.f.2.1] at M
    dsimp only [Option.bind] at M
    rw [if_neg f6.f.1] at M
    exact ⟨false, x6, m6, X, M, flx.tr (FL.t (d2.tr f3) f4), .inr ⟨rfl, f6⟩⟩
  | false =>
    obtain ⟨m6, f1, f2, f3, f4, f5, f6, f7⟩ := hT5.adv (by omega)
    have hP6 : RP ls ib L (sI x5 3 7 0) m6 A B := hP5.t f3 f5
    have key : nI cv ||| ((1 : Int32) <<< (nI i &&& 31)) = nI (cv ||| 2 ^ i) := by rw [p2_I (by omega), nI_or]
    rw [hbit, bF, f1] at X
    dsimp only at X
    rw [hP6.1.2.2.1, if_pos hlB, if_pos (inb_nI (by omega) (by omega)), show gI (sI x5 3 7 0) (ls + 18) j = nI cv from (f3.1 _ _ (by omega) (by omega)).trans cv2, key, if_pos (inb_nI (by omega) (by omega))] at X
    rw [hbit, if_neg (show ¬ bi false = 1 by decide), asked_y hT5 hc5 (f2_M hP5 k1), gfd, if_neg (nI_ne1 (by omega)), f2] at M
    dsimp only [Option.bind] at M
    have flf : FL ls ib x m (sI x5 3 7 0) m6 := flx.tr (FL.t (d2.tr f3) f5)
    by_cases h06 : gI m6 0 8 = 0
    · rw [if_pos (by rw [h06]; decide)] at M
      dsimp only [ltt] at M
      rw [if_pos h06, if_pos win, if_pos win, show gI m6 8 (8 * ib + j) = nI cv from (f5.1 _ _ (by omega)).trans cv3, key] at M
      exact ⟨true, _, _, X, M, (flf.tr (FL.sx (by omega) (by omega))).tr (FL.sm (.inr (by show 8 * ib ≤ _ ∧ _ < 8 * ib + 8; omega))), .inl ⟨rfl, e5, by omega, f7.c (S3.s (by omega)) (S0.s (by omega)), fun _ => ⟨L, A, B, by omega, by omega, hP6.hd hj' hi' cv1⟩⟩⟩
    · have hle : ¬ gI m6 0 8 ≤ 0 := f7.bad h06
      rw [if_neg hle] at M
      dsimp only [Option.bind] at M
      rw [if_neg h06] at M
      exact ⟨true, _, _, X, M, flf.tr (FL.sx (by omega) (by omega)), .inl ⟨rfl, e5, by omega, f7.c (S3.s (by omega)) (S0.rf _), fun z => absurd z h06⟩⟩
theorem RP.ag (h : RP ls ib L x m A B) (hn : L.na < 6) {v1 v2 : Nat} (hv1 : v1 ≤ 99) (hv2 : v2 ≤ 200) : RP ls ib ((L.np, L.nt, L.na + 1, L.nl, L.nb), L.pn, L.tn, L.bn) (sI (sI (sI (sI x (ls + 7 + 1) L.na 0) (ls + 7) 4 (nI (L.na + 1))) (ls + 7 + 2) (L.na * 2 + 0) (nI v1)) (ls + 7 + 2) (L.na * 2 + 1) (nI v2)) (sI (sI (sI m 14 (6 * ib + L.na) (nI v1)) 15 (6 * ib + L.na) (nI v2)) 13 ib (nI (L.na + 1))) A B := by
  obtain ⟨h0, h1, h2, h3, h4, h5, h6, h7, h8, h9⟩ := h
  have hl := land_o h0.1
  have hib := h0.2.1
  obtain ⟨X, hX⟩ : ∃ X, X = sI (sI (sI (sI x (ls + 7 + 1) L.na 0) (ls + 7) 4 (nI (L.na + 1))) (ls + 7 + 2) (L.na * 2 + 0) (nI v1)) (ls + 7 + 2) (L.na * 2 + 1) (nI v2) := ⟨_, rfl⟩
  obtain ⟨M, hM⟩ : ∃ M, M = sI (sI (sI m 14 (6 * ib + L.na) (nI v1)) 15 (6 * ib + L.na) (nI v2)) 13 ib (nI (L.na + 1)) := ⟨_, rfl⟩
  rw [← hX, ← hM]
  have gx : ∀ o k, ¬ (o = ls + 7 ∧ k = 4) → o ≠ ls + 8 → ¬ (o = ls + 9 ∧ L.na * 2 ≤ k ∧ k < L.na * 2 + 2) → gI X o k = gI x o k := fun o k z1 z2 z3 => by rw [hX]; exact (ge_n (by omega)).trans ((ge_n (by omega)).trans ((ge_n (by omega)).trans (ge_n (by omega))))
  have gm : ∀ o k, o ≠ 13 → ¬ ((o = 14 ∨ o = 15) ∧ k = 6 * ib + L.na) → gI M o k = gI m o k := fun o k z1 z2 => by rw [hM]; exact (ge_n (by omega)).trans ((ge_n (by omega)).trans (ge_n (by omega)))
  have gl : ∀ o k, gL M o k = gL m o k := fun o k => by rw [hM]; rfl
  refine ⟨h0.c (by rw [hX]; rfl) (gm _ _ (by omega) (by omega)) (fun r j hr hj => gx _ _ (by omega) (by have := roll_o hr; omega) (by have := roll_o hr; omega)), h1.c ⟨rfl, rfl⟩ (fun o k _ _ => gx _ _ (by omega) (by omega) (by omega)) (fun o k _ => gm _ _ (by omega) (by omega)) (fun k => gl _ _), h2.c ⟨rfl, rfl⟩ (fun o k _ _ => gx _ _ (by omega) (by omega) (by omega)) (fun o k _ => gm _ _ (by omega) (by omega)) (fun k => gl _ _), ?_, h4.c ⟨rfl, rfl⟩ (fun o k _ _ => gx _ _ (by omega) (by omega) (by omega)) (fun o k _ => gm _ _ (by omega) (by omega)) (fun k => gl _ _), h5.c (fun k => gx _ _ (by omega) (by omega) (by omega)) (fun k => gm _ _ (by omega) (by omega)), h6.c (fun k => gx _ _ (by omega) (by omega) (by omega)) (fun k => gm _ _ (by omega) (by omega)), h7.c ⟨rfl, rfl⟩ (fun k => gx _ _ (by omega) (by omega) (by omega)) (fun k => gm _ _ (by omega) (by omega)), h8.c (gx _ _ (by omega) (by omega) (by omega)) (gm _ _ (by omega) (by omega)), h9.c rfl (fun o k _ => gx _ _ (by omega) (by omega) (by omega)) (fun o k _ => gm _ _ (by omega) (by omega))⟩
  refine ⟨⟨by show L.na + 1 ≤ 6; omega, by rw [hX]; exact (ge_n (by omega)).trans ((ge_n (by omega)).trans ge_s), by rw [hM]; exact ge_s⟩, fun i hi => ?_⟩
  have hi' : i < L.na + 1 := hi
  by_cases z : i = L.na
  · subst z
    refine ⟨⟨v1, hv1, ?_, ?_⟩, ⟨v2, hv2, ?_, ?_⟩⟩
    · rw [hX, show 2 * L.na = L.na * 2 + 0 by omega]; exact (ge_n (by omega)).trans ge_s
    · rw [hM]; exact (ge_n (by omega)).trans ((ge_n (by omega)).trans ge_s)
    · rw [hX, show 2 * L.na + 1 = L.na * 2 + 1 by omega]; exact ge_s
    · rw [hM]; exact (ge_n (by omega)).trans ge_s
  · rw [gx _ _ (by omega) (by omega) (by omega), gx _ _ (by omega) (by omega) (by omega), gm _ _ (by omega) (by omega), gm _ _ (by omega) (by omega)]
    exact h3.2 i (by omega)
theorem stAge {c a e v : Nat} {l : List Nat} (hT : TS t n p c a e l v x m) (hc : c ≠ 302) (hP : RP ls ib L x m A B) (hA : A ≤ p) (hB : B ≤ p) : ∃ b x' m', f_X5_newAge x = some (bi b, x') ∧ f_X11_ageing m = some ((), m') ∧ StOK t n p ls ib b x m x' m' := by
  have hl := land_o hP.1.1
  have hlB := landB_of hP.1.1
  have hib := hP.1.2.1
  have q := lnS hP.1.1
  obtain ⟨hn, e4, em⟩ := hP.2.2.2.1.1
  have h38 := hP.1.2.2.2.1
  have e0 := (rolls hP).2.2.1.1
  have X := e_X5_newAge x
  have M := e_X11_ageing m
  dsimp only [ltt] at X
  rw [hP.1.2.2.1, if_pos hlB] at X
  rw [h38, if_pos (bk_ix hib).1, (bk_ix hib).2, em] at M
  rcases begB hT hc e4 e0 hn (by omega) with ⟨hs, hb⟩ | ⟨hs, m1, b1, b2, b3, b4, p1, b5, b6⟩
  · rw [if_pos (by rw [hs]; rfl), e_X11_ageing_20] at M
    rw [X, M]
    obtain ⟨x', m', c1, c2, c3, c4, c5⟩ := hb
    exact ⟨false, x', m', by rw [c1]; rfl, by rw [c2]; rfl, FL.t c3 c4, .inr ⟨rfl, c5⟩⟩
  rw [if_neg (show ¬ nI L.na = (6 : Int32) from fun z => by have := (nI_eq (b := 6) (by omega) (by omega)).mp z; omega), e_X11_ageing_20, b2] at M
  rw [b1] at X
  have hP1 : RP ls ib L (sI x 3 7 0) m1 A B := hP.t b3 b4
  have w2 : (6 : Int32) * nI ib + nI L.na = nI (6 * ib + L.na) := by rw [show (6 : Int32) = nI 6 from rfl, pk_mul, nI_add]
  have win : inb (nI (6 * ib + L.na)) 12 = true := inb_nI (by omega) (by omega)
  have wix : ix (nI (6 * ib + L.na)) = 6 * ib + L.na := ix_nI (by omega)
  have hwd : 6 * ib ≤ 6 * ib + L.na ∧ 6 * ib + L.na < 6 * ib + 6 := by omega
  have d15 : ∀ w, DC ls ib (putM (nI (6 * ib + L.na)) 12 15 (incM 13) w) := fun w => (DC.inc 13).put win wix (by omega) hwd
  have d15n : DC ls ib (numM (nI 0) (nI 200) (putM (nI (6 * ib + L.na)) 12 15 (incM 13))) := DC.num _ _ (d15 0)
  have d14 : ∀ w, DC ls ib (putM (nI (6 * ib + L.na)) 12 14 (numM (nI 0) (nI 200) (putM (nI (6 * ib + L.na)) 12 15 (incM 13))) w) := fun w => d15n.put win wix (by omega) hwd
  -- from the least year on
  have key : ∀ lo, lo < 1000 → ∃ b x' m', ((f_X5_number (nI lo) (nI 99) (sI x 3 7 0)).bind fun q19 => if q19.1 = 0 then (some ((0 : Int32), q19.2)) else (ltt (gR q19.2 5 1) fun g20 => if landB g20 = true then ((f_X8_add (g20 + 7) (0 : Int32) q19.2).bind fun q21 => ltt (gR q21.2 5 1) fun g22 => if landB g22 = true then ((f_X5_keep (g22 + 7) (0 : Int32) q21.2).bind fun q23 => (f_X5_number (0 : Int32) (200 : Int32) q23.2).bind fun q24 => if q24.1 = 0 then (some ((0 : Int32), q24.2)) else (ltt (gR q24.2 5 1) fun g25 => if landB g25 = true then ((f_X5_keep (g25 + 7) (1 : Int32) q24.2).bind fun q26 => if q26.1 = 0 then (some ((0 : Int32), q26.2)) else (some ((1 : Int32), q26.2))) else none)) else none) else none)) = some (bi b, x') ∧ (if gI m1 0 8 = 0 then numM (nI lo) (nI 99) (putM (nI (6 * ib + L.na)) 12 14 (numM (nI 0) (nI 200) (putM (nI (6 * ib + L.na)) 12 15 (incM 13)))) m1 else some ((), m1)) = some ((), m') ∧ StOK t n p ls ib b x m x' m' := by
    intro lo hlo
    by_cases h0 : gI m1 0 8 = 0
    · rw [if_pos h0]
      refine numStep (p0 := p) (FX := fun σ => ltt (gR σ 5 1) fun g20 => if landB g20 = true then ((f_X8_add (g20 + 7) (0 : Int32) σ).bind fun q21 => ltt (gR q21.2 5 1) fun g22 => if landB g22 = true then ((f_X5_keep (g22 + 7) (0 : Int32) q21.2).bind fun q23 => numX (nI 0) (nI 200) (kpX 7 (nI 1) oneX) q23.2) else none) else none) (by omega) (by omega) (⟨b5, b6, TX.rf _, TM.rf _⟩ : AL t n p p1 (sI x 3 7 0) m1 _ _) (FL.t b3 b4) d14 (fun v1 p4 x4 m4 _ hv1 hv hA5 => ?_)
      have hAx := hA5.2.2.1
      have g4 : gI x4 (ls + 7) 4 = nI L.na := (hAx.1 _ _ (by omega) (by omega)).trans hP1.2.2.2.1.1.2.1
      have g0 : gI x4 (ls + 7) 0 = nI 6 := (hAx.1 _ _ (by omega) (by omega)).trans (rolls hP1).2.2.1.1
      have g1 : gI x4 (ls + 7) 1 = nI 2 := (hAx.1 _ _ (by omega) (by omega)).trans (rolls hP1).2.2.1.2
      have gR4 : gR x4 5 1 = ls := (hAx.2.1 5 1).trans hP1.1.2.2.1
      refine putStep hA5 win wix (by omega) (fun hA6 => ?_)
      have hA7 : AL t n p p4 (sI (sI (sI (sI x 3 7 0) (ls + 7 + 1) L.na 0) (ls + 7) 4 (nI (L.na + 1))) (ls + 7 + 2) (L.na * 2 + 0) (nI v1)) (sI m1 14 (6 * ib + L.na) (nI v1)) (sI (sI (sI x4 (ls + 7 + 1) L.na 0) (ls + 7) 4 (nI (L.na + 1))) (ls + 7 + 2) (L.na * 2 + 0) (nI v1)) (sI m4 14 (6 * ib + L.na) (nI v1)) := ⟨hA6.1, hA6.2.1.c (((S3.s (by omega)).tr (S3.s (by omega))).tr (S3.s (by omega))) (S0.rf _), ((hA6.2.2.1.w (by omega)).w (by omega)).w (by omega), hA6.2.2.2⟩
      have hFL1 : FL ls ib x m (sI (sI (sI (sI x 3 7 0) (ls + 7 + 1) L.na 0) (ls + 7) 4 (nI (L.na + 1))) (ls + 7 + 2) (L.na * 2 + 0) (nI v1)) (sI m1 14 (6 * ib + L.na) (nI v1)) := ((FL.t b3 b4).tr (((FL.sx (by omega) (by omega)).tr (FL.sx (by omega) (by omega))).tr (FL.sx (by omega) (by omega)))).tr (FL.sm (o := 14) (.inr hwd))
      have rest : Gl t n p ls ib x m (numX (nI 0) (nI 200) (kpX 7 (nI 1) oneX)) (numM (nI 0) (nI 200) (putM (nI (6 * ib + L.na)) 12 15 (incM 13))) (sI (sI (sI x4 (ls + 7 + 1) L.na 0) (ls + 7) 4 (nI (L.na + 1))) (ls + 7 + 2) (L.na * 2 + 0) (nI v1)) (sI m4 14 (6 * ib + L.na) (nI v1)) := by
        refine numStep (by omega) (by omega) hA7 hFL1 d15 (fun v2 p8 x8 m8 _ hv2 hv' hA8 => ?_)
        refine putStep hA8 win wix (by omega) (fun hA9 => ?_)
        refine kpStep (s := L.na) (w := 2) (cl := 1) hA9 hP.1.1 hP1.1.2.2.1 ((ge_n (by omega)).trans ge_s) ((ge_n (by omega)).trans ((ge_n (by omega)).trans ((ge_n (by omega)).trans (rolls hP1).2.2.1.2))) (by omega) (by omega) (by omega) (by omega) (by omega) (by omega) hv' (fun hA10 => ?_)
        exact incStep hA10 hib ((ge_n (by omega)).trans ((ge_n (by omega)).trans hP1.1.2.2.2.1)) ((ge_n (by omega)).trans ((ge_n (by omega)).trans hP1.2.2.2.1.1.2.2)) (by omega) rfl ((hFL1.tr (FL.sx (by omega) (by omega))).tr (FL.sm (o := 15) (.inr hwd))) hA hB (hP1.ag hs hv1 hv2)
      obtain ⟨b, x', m', r1, r2, r3⟩ := rest
      refine ⟨b, x', m', ?_, r2, r3⟩
      show (if landB (gR x4 5 1) = true then _ else _) = _
      rw [gR4, if_pos hlB, addR 0 g4 g0 hs (by omega) (by omega)]
      dsimp only [Option.bind, ltt]
      rw [show gR (sI (sI x4 (ls + 7 + 1) L.na 0) (ls + 7) 4 (nI (L.na + 1))) 5 1 = ls from gR4, if_pos hlB, show (0 : Int32) = nI 0 from rfl, keep_X (s := L.na) (w := 2) (cl := 0) ge_s ((ge_n (by omega)).trans ((ge_n (by omega)).trans g1)) (by omega) (by omega) (by omega) (by omega) (by omega), show gI (sI (sI x4 (ls + 7 + 1) L.na (nI 0)) (ls + 7) 4 (nI (L.na + 1))) 5 2 = nI v1 from (ge_n (by omega)).trans ((ge_n (by omega)).trans hv)]
      exact r1
    · rw [if_neg h0]
      obtain ⟨b, x3, m3, w, n1, n2, ⟨n3, n4, n5, n6⟩, n7⟩ := numB b6 (lo := lo) (hi := 99) (by omega) (by omega)
      obtain ⟨rfl, rfl⟩ := n5 h0
      rcases n6 with ⟨z, -⟩ | ⟨-, z⟩
      · cases z
      · rw [n1]
        exact ⟨false, x3, _, rfl, rfl, (FL.t b3 b4).tr (FL.t n3 (TM.rf _)), .inr ⟨rfl, z⟩⟩
  have g4 : gI (sI x 3 7 0) (ls + 7) 4 = nI L.na := hP1.2.2.2.1.1.2.1
  dsimp only [Option.bind] at X M
  rw [if_neg (by decide), hP1.1.2.2.1, if_pos hlB, g4] at X
  have M2 : ∀ lo : Nat, (gI m1 0 8 = 0 → f_X11_ageing m = numM (nI lo) (nI 99) (putM (nI (6 * ib + L.na)) 12 14 (numM (nI 0) (nI 200) (putM (nI (6 * ib + L.na)) 12 15 (incM 13)))) m1) → f_X11_ageing m = (if gI m1 0 8 = 0 then numM (nI lo) (nI 99) (putM (nI (6 * ib + L.na)) 12 14 (numM (nI 0) (nI 200) (putM (nI (6 * ib + L.na)) 12 15 (incM 13)))) m1 else some ((), m1)) := by
    intro lo h
    by_cases h0 : gI m1 0 8 = 0
    · rw [if_pos h0]; exact h h0
    · rw [if_neg h0, M, decide_eq_false h0, bF]
  by_cases hz : L.na = 0
  · obtain ⟨b, x', m', r1, r2, r3⟩ := key 0 (by omega)
    rw [if_pos (by rw [hz]; decide)] at X
    refine ⟨b, x', m', X.trans r1, (M2 0 (fun h0 => ?_)).trans r2, r3⟩
    rw [M, decide_eq_true h0, bT, hP1.1.2.2.2.1, if_pos (bk_ix hib).1, (bk_ix hib).2, hP1.2.2.2.1.1.2.2, w2]
    dsimp only [ltt]
    rw [if_pos (bk_ix hib).1, if_pos (by rw [hz]; rfl)]
    rfl
  · obtain ⟨na', hna⟩ : ∃ k, L.na = k + 1 := ⟨L.na - 1, by omega⟩
    obtain ⟨⟨pv, pv1, pv2, pv3⟩, -⟩ := hP1.2.2.2.1.2 na' (by omega)
    obtain ⟨b, x', m', r1, r2, r3⟩ := key (pv + 1) (by omega)
    rw [if_neg (nI_nle (by omega) (by omega))] at X
    have gt : f_X8_get (ls + 7) (nI L.na - 1) 0 (sI x 3 7 0) = some (nI pv, sI x 3 7 0) := by
      rw [hna, nI_pred, e_X8_get, if_neg (nI_pos (by omega)), g4, if_neg (nI_ge (by omega) (by omega)), if_neg (by decide), (rolls hP1).2.2.1.2, if_neg (by decide), show (0 : Int32) = nI 0 from rfl, pk_mul, nI_add, if_pos (inb_nI (by omega) (by omega)), ix_nI (by omega), show na' * 2 + 0 = 2 * na' by omega]
      exact congrArg (fun z => some (z, sI x 3 7 0)) pv2
    rw [gt] at X
    dsimp only at X
    rw [nI_1, if_pos hlB, if_pos hlB] at X
    refine ⟨b, x', m', X.trans r1, (M2 (pv + 1) (fun h0 => ?_)).trans r2, r3⟩
    rw [M, decide_eq_true h0, bT, hP1.1.2.2.2.1, if_pos (bk_ix hib).1, (bk_ix hib).2, hP1.2.2.2.1.1.2.2, w2]
    dsimp only [ltt]
    rw [if_pos (bk_ix hib).1, if_neg (nI_ne0 (by omega) (by omega)), show 6 * ib + L.na = 6 * ib + na' + 1 by omega, nI_pred, if_pos (inb_nI (by omega) (by omega)), ix_nI (by omega), pv3, nI_1]
    rfl
end As
