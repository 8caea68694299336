/-! ===== a law is read: pieces, products, sums ===== -/
section Sm
variable {t : Nat → Nat} {n ls ib p A B D q bs k : Nat} {pr : Int32} {x m x' m' x1 m1 x3 m3 : St}
theorem part_C {c ph bg : Nat} {rec : Int32 → St → Option (Int32 × St)} (hrec : D < 8 → SumC t n ls ib (D + 1) rec) (hbad : D < 8 → BadF t n ls ib (rec (nI (D + 1)))) (h : PreA t n ls ib p c A B D q bs k pr ph bg 7 21 x m) : Ctr t n ls ib p A B D q bs k pr (5 + 5 * D) 7 0 false (fun ph' _ => ph' = ph) (f_X5_part rec (nI D) x) x m := by
  obtain ⟨hN, hC, h9, hM, hTp, hph, hbg, hf⟩ := h
  obtain ⟨a, e, l, v, x1, e1, e2, e3, hT⟩ := hN.lk
  obtain ⟨hld, hR, hn, hi, hD, hb, hA, hBq, hp, h4, hk⟩ := id hC
  have hls := land_o hld
  have hbn := hT.nxc.bn
  have h48 : gI m 0 48 = 0 := hM.2.2.2.2.2.1
  have hop := op_121 hT hM hk (by omega) hbg hf
  have hT0 : TS t n p c a e l v x1 (sI m 28 D (nI 0)) := hT.c (S3.rf _) (S0.s (by omega))
  have hcl := hT.cl
  have hφ : ¬ ph = 2 := by omega
  have m3e := hT0.2.2.2.2.2.2.1
  have X := e_X5_part rec (nI D) x
  rw [e1] at X
  dsimp only [Option.bind] at X
  by_cases c40 : c = 40
  · rw [if_pos (by rw [c40]; rfl)] at X
    rw [X]
    exact paren_C hrec hbad hC h9 hM e2 hT c40 hop
  have s40 : f_X11_isSign 40 (sI m 28 D (nI 0)) = some (0, sI m 28 D (nI 0)) := hT0.s0 40 (by omega) c40
  rw [if_neg (show ¬ nI c = (40 : Int32) from nI_ne (k := 40) hcl (by omega) c40)] at X
  by_cases c421 : c = 421
  · have w1 : f_X11_isWord 7170414 (sI m 28 D (nI 0)) = some (1, sI m 28 D (nI 0)) := hT0.w1 21 (by omega) c421
    have hop' : f_X11_operand m = f_X11_operand_174 15 (sI m 28 D (nI 0)) := by
      rw [hop, e_X11_operand_121, s40]; dsimp only [Option.bind]; rw [if_pos rfl, w1]; dsimp only; rw [if_neg (by decide), e_X11_operand_157, w1]; dsimp only [Option.bind]; rw [if_neg (by decide), e_X11_operand_174]; rfl
    rw [c421] at X
    simp (config := { decide := true }) only [if_true, if_false] at X
    rw [X]
    exact choice_C (o := 10) hrec hbad hC h9 hM e2 hT (.inl c421) hop' (.inl rfl) rfl rfl
  by_cases c422 : c = 422
  · have w1 : f_X11_isWord 7170414 (sI m 28 D (nI 0)) = some (0, sI m 28 D (nI 0)) := hT0.w0 21 (by omega) c421
    have w2 : f_X11_isWord 7168376 (sI m 28 D (nI 0)) = some (1, sI m 28 D (nI 0)) := hT0.w1 22 (by omega) c422
    have hop' : f_X11_operand m = f_X11_operand_174 16 (sI m 28 D (nI 0)) := by
      rw [hop, e_X11_operand_121, s40]; dsimp only [Option.bind]; rw [if_pos rfl, w1]; dsimp only; rw [if_pos rfl, w2]; dsimp only; rw [if_neg (by decide), e_X11_operand_157, w1]; dsimp only [Option.bind]; rw [if_pos rfl, e_X11_operand_174]; rfl
    rw [c422] at X
    simp (config := { decide := true }) only [if_true, if_false] at X
    rw [X]
    exact choice_C (o := 11) hrec hbad hC h9 hM e2 hT (.inr c422) hop' (.inr rfl) rfl rfl
  have w21 : f_X11_isWord 7170414 (sI m 28 D (nI 0)) = some (0, sI m 28 D (nI 0)) := hT0.w0 21 (by omega) c421
  have w22 : f_X11_isWord 7168376 (sI m 28 D (nI 0)) = some (0, sI m 28 D (nI 0)) := hT0.w0 22 (by omega) c422
  have M := hop
  rw [e_X11_operand_121, s40] at M
  dsimp only [Option.bind] at M
  rw [if_pos rfl, w21] at M
  dsimp only at M
  rw [if_pos rfl, w22] at M
  dsimp only at M
  rw [if_pos rfl, m3e] at M
  by_cases c301 : c = 301
  · have v6 := hT.2.2.2.1.2.2.2.2.1 c301
    have w6 := hT0.2.2.2.2.2.2.2.2.2.1 c301
    have hv : v ≤ 9999 := by rcases hT.2.2.1.cd hT.1.1 with z | z | z | z <;> omega
    have X' : f_X5_part rec (nI D) x = (f_X5_step (nI v) x1).bind fun q29 => if zok q29.1 = true then some (q29.1, q29.2) else none := by
      rw [X, c301]; simp (config := { decide := true }) only [if_true, if_false]; rw [v6]; rfl
    rw [X']
    refine leafC ⟨_, leafS (s0 := 0) (v0 := nI v) (v1 := nI v) (tk := (0, v)) (φ := ph) hC h9 e2 hM hT (by omega) ?_ rfl rfl (fun _ => rfl) (Ex.leaf (.inl ⟨rfl, by omega⟩) (by omega)) (fun _ => rfl) (fun _ => rfl)⟩
    rw [M, c301]
    simp (config := { decide := true }) only [if_true, if_false, hφ]
    rw [hT0.2.2.2.2.1, w6, if_pos (by decide)]; rfl
  have nw : ∀ i, i < 23 → c ≠ 400 + i → f_X11_isWord (wl i) (sI m 28 D (nI 0)) = some (0, sI m 28 D (nI 0)) := fun i hi h => hT0.w0 i hi h
  have yw : ∀ i, i < 23 → c = 400 + i → f_X11_isWord (wl i) (sI m 28 D (nI 0)) = some (1, sI m 28 D (nI 0)) := fun i hi h => hT0.w1 i hi h
  have n2 : ¬ nI (if c = 302 then 0 else if c < 256 then 3 else if c = 301 then 2 else 1) = (2 : Int32) := by
    by_cases z1 : c = 302
    · rw [if_pos z1]; decide
    · rw [if_neg z1]
      by_cases z2 : c < 256
      · rw [if_pos z2]; decide
      · rw [if_neg z2, if_neg c301]; decide
  rw [if_neg n2] at M
  have lf : ∀ (i : Nat) (u s0 : Int32) (j : Nat), c = 400 + i → j < 5 → vI (-1 - (j : Int)) = u → nI (1 + j) = s0 → ¬ s0 = 0 → f_X11_operand m = ((f_X11_add s0 (gI (sI m 28 D (nI 0)) 0 6) (sI m 28 D (nI 0))).bind fun q5 => (f_X11_ahead q5.2).bind fun q6 => some ((1 : Int32), q6.2)) → Ctr t n ls ib p A B D q bs k pr (5 + 5 * D) 7 0 false (fun ph' _ => ph' = ph) ((f_X5_step u x1).bind fun q29 => if zok q29.1 = true then some (q29.1, q29.2) else none) x m := by
    intro i u s0 j hci hj hu hs hs0 hm
    refine leafC ⟨_, leafS (s0 := s0) (v0 := gI (sI m 28 D (nI 0)) 0 6) (v1 := 0) (tk := (1, j)) (φ := ph) hC h9 e2 hM hT (by omega) ?_ (by show [vI (-1 - (j : Int))] = [u]; rw [hu]) (by show [(nI (1 + j), 0)] = [(s0, 0)]; rw [hs]) (fun z => absurd z hs0) (Ex.leaf (.inr ⟨rfl, hj⟩) (by omega)) (fun _ => rfl) (fun _ => rfl)⟩
    rw [hm]
    simp only [if_neg hφ]
  have le0 : gI (sI m 28 D (nI 0)) 0 8 ≤ 0 := hT0.le
  by_cases c401 : c = 401
  · have X' : f_X5_part rec (nI D) x = (f_X5_step (-1) x1).bind fun q29 => if zok q29.1 = true then some (q29.1, q29.2) else none := by
      rw [X, c401]; simp (config := { decide := true }) only [if_true, if_false]; rfl
    rw [X']
    refine lf 1 _ 1 0 c401 (by omega) rfl rfl (by decide) ?_
    have w1 : f_X11_isWord 123581014175598 (sI m 28 D (nI 0)) = some (1, sI m 28 D (nI 0)) := yw 1 (by omega) c401
    rw [M, w1]; dsimp only; rw [if_neg (by decide), if_neg (by decide), if_pos le0]; rfl
  have w1 : f_X11_isWord 123581014175598 (sI m 28 D (nI 0)) = some (0, sI m 28 D (nI 0)) := nw 1 (by omega) c401
  rw [w1] at M
  dsimp only at M
  rw [if_pos rfl] at M
  by_cases c418 : c = 418
  · have X' : f_X5_part rec (nI D) x = (f_X5_step (-2) x1).bind fun q29 => if zok q29.1 = true then some (q29.1, q29.2) else none := by
      rw [X, c418]; simp (config := { decide := true }) only [if_true, if_false]; rfl
    rw [X']
    refine lf 18 _ 2 1 c418 (by omega) rfl rfl (by decide) ?_
    have w1 : f_X11_isWord 7302244 (sI m 28 D (nI 0)) = some (1, sI m 28 D (nI 0)) := yw 18 (by omega) c418
    rw [M, w1]; dsimp only; rw [if_neg (by decide), if_neg (by decide), if_pos le0]; rfl
  have w2 : f_X11_isWord 7302244 (sI m 28 D (nI 0)) = some (0, sI m 28 D (nI 0)) := nw 18 (by omega) c418
  rw [w2] at M
  dsimp only at M
  rw [if_pos rfl] at M
  by_cases c419 : c = 419
  · have X' : f_X5_part rec (nI D) x = (f_X5_step (-3) x1).bind fun q29 => if zok q29.1 = true then some (q29.1, q29.2) else none := by
      rw [X, c419]; simp (config := { decide := true }) only [if_true, if_false]; rfl
    rw [X']
    refine lf 19 _ 3 2 c419 (by omega) rfl rfl (by decide) ?_
    have w1 : f_X11_isWord 439956431717 (sI m 28 D (nI 0)) = some (1, sI m 28 D (nI 0)) := yw 19 (by omega) c419
    rw [M, w1]; dsimp only; rw [if_neg (by decide), if_neg (by decide), if_pos le0]; rfl
  have w3 : f_X11_isWord 439956431717 (sI m 28 D (nI 0)) = some (0, sI m 28 D (nI 0)) := nw 19 (by omega) c419
  rw [w3] at M
  dsimp only at M
  rw [if_pos rfl] at M
  by_cases c406 : c = 406
  · have X' : f_X5_part rec (nI D) x = (f_X5_step (-4) x1).bind fun q29 => if zok q29.1 = true then some (q29.1, q29.2) else none := by
      rw [X, c406]; simp (config := { decide := true }) only [if_true, if_false]; rfl
    rw [X']
    refine lf 6 _ 4 3 c406 (by omega) rfl rfl (by decide) ?_
    have w1 : f_X11_isWord 114827803456882 (sI m 28 D (nI 0)) = some (1, sI m 28 D (nI 0)) := yw 6 (by omega) c406
    rw [M, w1]; dsimp only; rw [if_neg (by decide), if_neg (by decide), if_pos le0]; rfl
  have w4 : f_X11_isWord 114827803456882 (sI m 28 D (nI 0)) = some (0, sI m 28 D (nI 0)) := nw 6 (by omega) c406
  rw [w4] at M
  dsimp only at M
  rw [if_pos rfl] at M
  by_cases c420 : c = 420
  · have X' : f_X5_part rec (nI D) x = (f_X5_step (-5) x1).bind fun q29 => if zok q29.1 = true then some (q29.1, q29.2) else none := by
      rw [X, c420]; simp (config := { decide := true }) only [if_true, if_false]; rfl
    rw [X']
    refine lf 20 _ 5 4 c420 (by omega) rfl rfl (by decide) ?_
    have w1 : f_X11_isWord 474080961907 (sI m 28 D (nI 0)) = some (1, sI m 28 D (nI 0)) := yw 20 (by omega) c420
    rw [M, w1]; dsimp only; rw [if_neg (by decide), if_neg (by decide), if_pos le0]; rfl
  have w5 : f_X11_isWord 474080961907 (sI m 28 D (nI 0)) = some (0, sI m 28 D (nI 0)) := nw 20 (by omega) c420
  rw [w5] at M
  dsimp only at M
  obtain ⟨x5, m5, b1, b2, b3, b4, b5, b6, -⟩ := hT0.fail (k := 1) (by decide)
  rw [if_pos rfl, if_pos rfl, show (1 : Int32) = nI 1 from rfl, b2] at M
  dsimp only at M
  rw [if_neg b6.f.2.1] at M
  have ne : ∀ i : Nat, i < 500 → c ≠ i → ¬ nI c = nI i := fun i hi h => nI_ne hcl hi h
  rw [if_neg (show ¬ nI c = (301 : Int32) from ne 301 (by omega) c301), if_neg (show ¬ nI c = (401 : Int32) from ne 401 (by omega) c401), if_neg (show ¬ nI c = (406 : Int32) from ne 406 (by omega) c406), if_neg (show ¬ nI c = (418 : Int32) from ne 418 (by omega) c418), if_neg (show ¬ nI c = (419 : Int32) from ne 419 (by omega) c419), if_neg (show ¬ nI c = (420 : Int32) from ne 420 (by omega) c420), if_neg (show ¬ nI c = (421 : Int32) from ne 421 (by omega) c421), if_neg (show ¬ nI c = (422 : Int32) from ne 422 (by omega) c422), show (1 : Int32) = nI 1 from rfl, b1] at X
  rw [X]
  refine badC ⟨x5, rfl, opFail (b := true) (D := D) (B := B) (q := q) hld hi (by omega) h48 M ((XFr.tt e2).tr (XFr.tt b3) (Nat.le_refl _)) ((MF.s (by unfold MFx; omega)).tr (MF.tt b4) (Nat.le_refl _) (Nat.le_refl _) (Nat.le_refl _)) b6 ((b3.1 _ _ (by omega) (by omega)).trans ((e2.1 _ _ (by omega) (by omega)).trans h9)) (by omega)⟩
theorem part_B (hld : isLand ls) (rec : Int32 → St → Option (Int32 × St)) (d : Int32) : BadF t n ls ib (f_X5_part rec d) := by
  intro p A b x m x' h
  obtain ⟨y, e1, e2⟩ := h.lk hld
  refine ⟨y, ?_, e2⟩
  rw [e_X5_part, e1]
  dsimp only [Option.bind]
  simp (config := { decide := true }) only [if_false]
  rw [e2.here]; rfl
end Sm
