/-! ===== the parser's place in the text, in both ===== -/
def Tp (t : Nat → Nat) (n : Nat) (x m : St) : Prop := (∀ i, t i < 256) ∧ n ≤ 1600 ∧ TpX t x ∧ TpM t m ∧ JX x ∧ JM m
def Bd (x m : St) : Prop := ∃ k, (1 ≤ k ∧ k ≤ 5) ∧ gI x 3 8 = nI k ∧ gI m 0 8 = nI k ∧ gI x 3 9 = gI m 0 9
def NX (t : Nat → Nat) (n p : Nat) (x m : St) : Prop := Tp t n x m ∧ p ≤ n ∧ ((∃ q, LxF t n p q ∧ XU n p x ∧ gI m 0 8 = 1 ∧ gI m 0 9 = nI q) ∨ (∃ c a e l v, Lx t n p c a e l v ∧ (XU n p x ∨ XK n c a e l v x) ∧ gI m 0 8 = 0 ∧ MK n c a e l v m))
def TS (t : Nat → Nat) (n p c a e : Nat) (l : List Nat) (v : Nat) (x m : St) : Prop := Tp t n x m ∧ p ≤ n ∧ Lx t n p c a e l v ∧ XK n c a e l v x ∧ gI m 0 8 = 0 ∧ MK n c a e l v m
def S3 (x x' : St) : Prop := ∀ o k, o = 1 ∨ o = 3 ∨ o = 4 → gI x' o k = gI x o k
def S0 (m m' : St) : Prop := (∀ k, gI m' 1 k = gI m 1 k) ∧ (∀ k, 2 ≤ k → k ≤ 9 → gI m' 0 k = gI m 0 k) ∧ gL m' 0 7 = gL m 0 7
theorem S3.rf (x : St) : S3 x x := fun _ _ _ => rfl
theorem S0.rf (m : St) : S0 m m := ⟨fun _ => rfl, fun _ _ _ => rfl, rfl⟩
theorem S3.tr {x y z : St} (h : S3 x y) (g : S3 y z) : S3 x z := fun o k e => (g o k e).trans (h o k e)
theorem S0.tr {x y z : St} (h : S0 x y) (g : S0 y z) : S0 x z := ⟨fun k => (g.1 k).trans (h.1 k), fun k e e' => (g.2.1 k e e').trans (h.2.1 k e e'), g.2.2.trans h.2.2⟩
theorem S3.s {x : St} {o k : Nat} {v : Int32} (h : o ≠ 1 ∧ o ≠ 3 ∧ o ≠ 4) : S3 x (sI x o k v) := fun a b e => ge_n (by omega)
theorem S0.s {x : St} {o k : Nat} {v : Int32} (h : o ≠ 1 ∧ (o ≠ 0 ∨ 9 < k)) : S0 x (sI x o k v) := ⟨fun b => ge_n (by omega), fun b e e' => ge_n (by omega), rfl⟩
theorem S0.l {x : St} {o k : Nat} {v : Int64} (h : o ≠ 0) : S0 x (sL x o k v) := ⟨fun b => rfl, fun b e e' => rfl, by rw [gL_sL, if_neg (by omega)]⟩
theorem Tp.c {t : Nat → Nat} {n : Nat} {x m x' m' : St} (h : Tp t n x m) (hx : S3 x x') (hm : S0 m m') : Tp t n x' m' := ⟨h.1, h.2.1, ⟨fun i hi => (hx 1 i (by omega)).trans (h.2.2.1.1 i hi), fun i hi => (hx 4 i (by omega)).trans (h.2.2.1.2 i hi)⟩, fun i hi => (hm.1 i).trans (h.2.2.2.1 i hi), fun z => (hx 3 9 (by omega)).trans (h.2.2.2.2.1 ((hx 3 8 (by omega)).symm.trans z)), fun z => (hm.2.1 9 (by omega) (by omega)).trans (h.2.2.2.2.2 ((hm.2.1 8 (by omega) (by omega)).symm.trans z))⟩
theorem Tp.t {t : Nat → Nat} {n : Nat} {x m x' m' : St} (h : Tp t n x m) (hx : TX x x') (hm : TM m m') (jx : JX x') (jm : JM m') : Tp t n x' m' := ⟨h.1, h.2.1, h.2.2.1.c hx, h.2.2.2.1.c hm, jx, jm⟩
theorem XU.c {n p : Nat} {x x' : St} (h : XU n p x) (hx : S3 x x') : XU n p x' := by
  have e := fun k => hx 3 k (by omega)
  unfold XU; rw [e, e, e, e]; exact h
theorem XK.c {n c a e v : Nat} {l : List Nat} {x x' : St} (h : XK n c a e l v x) (hx : S3 x x') : XK n c a e l v x' := by
  have q := fun k => hx 3 k (by omega)
  unfold XK; rw [q, q, q, q, q, q, q]; exact h
theorem MK.c {n c a e v : Nat} {l : List Nat} {m m' : St} (h : MK n c a e l v m) (hm : S0 m m') : MK n c a e l v m' := by
  unfold MK; rw [hm.2.1 2 (by omega) (by omega), hm.2.1 3 (by omega) (by omega), hm.2.1 4 (by omega) (by omega), hm.2.1 5 (by omega) (by omega), hm.2.1 6 (by omega) (by omega), hm.2.2]; exact h
theorem NX.c {t : Nat → Nat} {n p : Nat} {x m x' m' : St} (h : NX t n p x m) (hx : S3 x x') (hm : S0 m m') : NX t n p x' m' := by
  obtain ⟨h1, h2, ⟨q, g1, g2, g3, g4⟩ | ⟨c, a, e, l, v, g1, g2, g3, g4⟩⟩ := h
  · exact ⟨h1.c hx hm, h2, .inl ⟨q, g1, g2.c hx, (hm.2.1 8 (by omega) (by omega)).trans g3, (hm.2.1 9 (by omega) (by omega)).trans g4⟩⟩
  · exact ⟨h1.c hx hm, h2, .inr ⟨c, a, e, l, v, g1, g2.imp (fun q => q.c hx) (fun q => q.c hx), (hm.2.1 8 (by omega) (by omega)).trans g3, g4.c hm⟩⟩
theorem TS.c {t : Nat → Nat} {n p c a e v : Nat} {l : List Nat} {x m x' m' : St} (h : TS t n p c a e l v x m) (hx : S3 x x') (hm : S0 m m') : TS t n p c a e l v x' m' := by
  obtain ⟨h1, h2, h3, h4, h5, h6⟩ := h
  exact ⟨h1.c hx hm, h2, h3, h4.c hx, (hm.2.1 8 (by omega) (by omega)).trans h5, h6.c hm⟩
theorem Bd.c {x m x' m' : St} (h : Bd x m) (hx : S3 x x') (hm : S0 m m') : Bd x' m' := by
  obtain ⟨k, h1, h2, h3, h4⟩ := h
  exact ⟨k, h1, (hx 3 8 (by omega)).trans h2, (hm.2.1 8 (by omega) (by omega)).trans h3, by rw [hx 3 9 (by omega), hm.2.1 9 (by omega) (by omega)]; exact h4⟩
theorem TS.nx {t : Nat → Nat} {n p c a e v : Nat} {l : List Nat} {x m : St} (h : TS t n p c a e l v x m) : NX t n p x m := ⟨h.1, h.2.1, .inr ⟨c, a, e, l, v, h.2.2.1, .inr h.2.2.2.1, h.2.2.2.2.1, h.2.2.2.2.2⟩⟩
theorem TS.look {t : Nat → Nat} {n p c a e v : Nat} {l : List Nat} {x m : St} (h : TS t n p c a e l v x m) : f_X6_look x = some (nI c, x) := h.2.2.2.1.look
theorem TS.cl {t : Nat → Nat} {n p c a e v : Nat} {l : List Nat} {x m : St} (h : TS t n p c a e l v x m) : c < 500 := by
  rcases h.2.2.1.cd h.1.1 with q | q | q | q <;> omega
theorem NX.lk {t : Nat → Nat} {n p : Nat} {x m : St} (h : NX t n p x m) : (∃ x1, f_X6_look x = some (303, x1) ∧ TX x x1 ∧ gI x1 5 2 = gI x 5 2 ∧ Bd x1 m) ∨ ∃ c a e l v x1, f_X6_look x = some (nI c, x1) ∧ TX x x1 ∧ gI x1 5 2 = gI x 5 2 ∧ TS t n p c a e l v x1 m := by
  obtain ⟨h1, h2, ⟨q, g1, g2, g3, g4⟩ | ⟨c, a, e, l, v, g1, g2, g3, g4⟩⟩ := h
  · obtain ⟨x1, e1, e2, e3, e4⟩ := look_br h1.2.2.1 h1.1 h1.2.1 g2 g1
    exact .inl ⟨x1, e1, e2, e3, 1, by decide, e4.1, g3, e4.2.trans g4.symm⟩
  · right
    rcases g2 with g2 | g2
    · obtain ⟨x1, e1, e2, e3, e4⟩ := look_ok h1.2.2.1 h1.1 h1.2.1 g2 g1
      exact ⟨c, a, e, l, v, x1, e1, e2, e3, h1.t e2 (TM.rf _) (lookJ h1.2.2.2.2.1 e1) h1.2.2.2.2.2, h2, g1, e4, g3, g4⟩
    · exact ⟨c, a, e, l, v, x, g2.look, TX.rf _, rfl, h1, h2, g1, g2, g3, g4⟩
theorem Bd.f {x m : St} (h : Bd x m) : ¬ gI m 0 8 = 0 ∧ ¬ gI m 0 8 ≤ 0 ∧ ¬ gI x 3 8 = 0 := by
  obtain ⟨k, h1, h2, h3, -⟩ := h
  rw [h3, h2]
  exact ⟨nI_ne0 (by omega) (by omega), nI_nle (by omega) (by omega), nI_ne0 (by omega) (by omega)⟩
theorem Bd.here {x m : St} (h : Bd x m) (k : Int32) : f_X6_failHere k x = some (0, x) := by
  rw [e_X6_failHere, e_X6_fail, if_neg h.f.2.2]; rfl
theorem Bd.look {x m : St} (h : Bd x m) : f_X6_look x = some (303, x) := by
  rw [e_X6_look, if_neg h.f.2.2, if_neg h.f.2.2]; split <;> rfl
theorem Bd.blame {x m : St} (h : Bd x m) (k q : Int32) : f_X11_blame k q m = some ((), m) := by
  rw [e_X11_blame, if_neg h.f.2.1]
/-- a fault of what stands here -/
theorem TS.fail {t : Nat → Nat} {n p c a e v : Nat} {l : List Nat} {x m : St} (h : TS t n p c a e l v x m) {k : Nat} (hk : 1 ≤ k ∧ k ≤ 5) : ∃ x' m', f_X6_failHere (nI k) x = some (0, x') ∧ f_X11_blame (nI k) (gI m 0 4) m = some ((), m') ∧ TX x x' ∧ TM m m' ∧ gI x' 5 2 = gI x 5 2 ∧ Bd x' m' ∧ gI m' 0 3 = gI m 0 3 ∧ gI m' 0 6 = gI m 0 6 ∧ gL m' 0 7 = gL m 0 7 := by
  obtain ⟨h1, h2, h3, h4, h5, h6⟩ := h
  obtain ⟨k2, k3, k4, k5, -, -, k7, k8⟩ := h4
  obtain ⟨-, -, m4, -⟩ := h6
  refine ⟨sI (sI x 3 8 (nI k)) 3 9 (gI x 3 4), sI (sI m 0 8 (nI k)) 0 9 (gI m 0 4), ?_, blame_0 h5, (TX.s3 (by decide)).tr (TX.s3 (by decide)), (TM.s (by decide)).tr (TM.s (by decide)), ?_, ⟨k, hk, ?_, ?_, ?_⟩, ?_, ?_, rfl⟩
  · rw [e_X6_failHere, fail_X k8]; rfl
  · rw [ge_n (by decide), ge_n (by decide)]
  · rw [ge_n (by decide), ge_s]
  · rw [ge_n (by decide), ge_s]
  · rw [ge_s, ge_s, k4, m4]
  · rw [ge_n (by decide), ge_n (by decide)]
  · rw [ge_n (by decide), ge_n (by decide)]
/-- on to the next word -/
theorem TS.adv {t : Nat → Nat} {n p c a e v : Nat} {l : List Nat} {x m : St} (h : TS t n p c a e l v x m) (hc : c ≠ 302) : ∃ m', f_X6_skip x = some ((), sI x 3 7 0) ∧ f_X11_ahead m = some ((), m') ∧ TX x (sI x 3 7 0) ∧ gI (sI x 3 7 0) 5 2 = gI x 5 2 ∧ TM m m' ∧ p < e ∧ NX t n e (sI x 3 7 0) m' := by
  obtain ⟨h1, h2, h3, h4, h5, h6⟩ := h
  have hB := h3.b
  have hT : TX x (sI x 3 7 0) := TX.s3 (by decide)
  have hu : XU n e (sI x 3 7 0) := by
    obtain ⟨k2, k3, k4, k5, -, -, k7, k8⟩ := h4
    refine ⟨?_, ?_, ge_s, ?_⟩
    · rw [ge_n (by decide)]; exact k2
    · rw [ge_n (by decide)]; exact k3
    · rw [ge_n (by decide)]; exact k8
  have hp : p < e := hB.2.2.2.resolve_left hc
  rcases lex_ex h3.q hB.2.2.1 with ⟨q, g⟩ | ⟨c', a', e', l', v', g⟩
  · obtain ⟨m1, e1, e2, e3, e4⟩ := ahead_br h1.2.2.2.1 h1.1 h1.2.1 h6.1 h6.2.2.2.1 h5 h3.q g
    exact ⟨m1, rfl, e1, hT, ge_n (by decide), e2, hp, h1.t hT e2 (jx_s (by decide) h1.2.2.2.2.1) (aheadJ h1.2.2.2.2.2 e1), hB.2.2.1, .inl ⟨q, g, hu, e3, e4⟩⟩
  · obtain ⟨m1, e1, e2, e3, e4⟩ := ahead_ok h1.2.2.2.1 h1.1 h1.2.1 h6.1 h6.2.2.2.1 h5 h3.q g
    exact ⟨m1, rfl, e1, hT, ge_n (by decide), e2, hp, h1.t hT e2 (jx_s (by decide) h1.2.2.2.2.1) (aheadJ h1.2.2.2.2.2 e1), hB.2.2.1, .inr ⟨c', a', e', l', v', g, .inl hu, e3, e4⟩⟩
theorem TS.sign {t : Nat → Nat} {n p c a e v : Nat} {l : List Nat} {x m : St} (h : TS t n p c a e l v x m) {k : Nat} (hk : k < 256) : f_X11_isSign (nI k) m = some (bi (decide (c = k)), m) := by
  have hcl := h.cl
  obtain ⟨h1, h2, h3, h4, h5, -, m3, m4, m5, m6, m7, m8⟩ := h
  rw [e_X11_isSign, m3]
  by_cases hc : c < 256
  · rw [if_neg (show ¬ c = 302 by omega), if_pos hc, if_pos (show nI 3 = 3 from rfl), m7 hc]
    by_cases e : c = k
    · rw [if_pos (by rw [e]), decide_eq_true e]; rfl
    · rw [if_neg (fun q => e ((nI_eq (by omega) (by omega)).mp q)), decide_eq_false e]; rfl
  · rw [if_neg (c := nI _ = 3), decide_eq_false (by omega)]
    · rfl
    · by_cases c2 : c = 302
      · rw [if_pos c2]; decide
      · rw [if_neg c2, if_neg hc]
        by_cases c3 : c = 301
        · rw [if_pos c3]; decide
        · rw [if_neg c3]; decide
theorem own_eq {l : List Nat} {i : Nat} (hi : i < 23) : own l = 400 + i ↔ l = owl i := by
  constructor
  · intro e
    rcases own_cs l with ⟨j, hj, h1, h2⟩ | ⟨-, h2⟩
    · rw [h1]; congr 1; omega
    · omega
  · intro e; rw [e]; exact own_i hi
theorem TS.wcmp {t : Nat → Nat} {n p c a e v : Nat} {l : List Nat} {x m : St} (h : TS t n p c a e l v x m) (hc : c = 300 ∨ 400 ≤ c) {i : Nat} (hi : i < 23) : (lg_cmp (gL m 0 7) (wl i) = 0) ↔ c = 400 + i := by
  have hcd := h.2.2.1.cd h.1.1
  have hL := h.2.2.2.2.2.2.2.2.2.2.2 hc
  have ho := owl_ok i hi
  rcases hcd with q | q | q | ⟨-, q1, q2, q3, q4, -⟩
  · omega
  · omega
  · omega
  · rw [cmp_0, hL, ho.2.2.2, pk_lEQ (Nat.lt_trans (pk8_48 q4 q3) (by decide)) (Nat.lt_trans (pk8_48 ho.2.2.1 ho.2.1) (by decide)), q1, own_eq hi]
    exact ⟨fun e => pk8_inj q4 ho.2.2.1 e, fun e => by rw [e]⟩
theorem TS.word {t : Nat → Nat} {n p c a e v : Nat} {l : List Nat} {x m : St} (h : TS t n p c a e l v x m) {i : Nat} (hi : i < 23) : f_X11_isWord (wl i) m = some (bi (decide (c = 400 + i)), m) := by
  have hcl := h.cl
  have m3 := h.2.2.2.2.2.2.1
  rw [e_X11_isWord, m3]
  by_cases hc : c = 300 ∨ 400 ≤ c
  · rw [if_neg (show ¬ c = 302 by omega), if_neg (show ¬ c < 256 by omega), if_neg (show ¬ c = 301 by omega), if_pos (show nI 1 = 1 from rfl)]
    by_cases e : c = 400 + i
    · rw [if_pos ((h.wcmp hc hi).mpr e), decide_eq_true e]; rfl
    · rw [if_neg (fun q => e ((h.wcmp hc hi).mp q)), decide_eq_false e]; rfl
  · rw [if_neg (c := nI _ = 1), decide_eq_false (by omega)]
    · rfl
    · rcases h.2.2.1.cd h.1.1 with q | q | q | q
      · rw [if_pos q]; decide
      · rw [if_neg (by omega), if_pos q]; decide
      · rw [if_neg (by omega), if_neg (by omega), if_pos q.1]; decide
      · omega
theorem TS.own {t : Nat → Nat} {n p c a e v : Nat} {l : List Nat} {x m : St} (h : TS t n p c a e l v x m) (hc : c = 300 ∨ 400 ≤ c) : f_X11_isOwn (gL m 0 7) m = some (bi (decide (400 ≤ c)), m) := by
  have hcl : c < 423 := by
    rcases h.2.2.1.cd h.1.1 with q | q | q | q <;> omega
  have g : ∀ i, i < 23 → ((lg_cmp (gL m 0 7) (wl i) = 0) ↔ c = 400 + i) := fun i hi => h.wcmp hc hi
  rw [e_X11_isOwn]
  simp only [show (lg_cmp (gL m 0 7) 119183001281906 = 0) ↔ c = 400 from g 0 (by omega), show (lg_cmp (gL m 0 7) 123581014175598 = 0) ↔ c = 401 from g 1 (by omega), show (lg_cmp (gL m 0 7) 1651470958 = 0) ↔ c = 402 from g 2 (by omega), show (lg_cmp (gL m 0 7) 465624790131 = 0) ↔ c = 403 from g 3 (by omega), show (lg_cmp (gL m 0 7) 431198467187 = 0) ↔ c = 404 from g 4 (by omega), show (lg_cmp (gL m 0 7) 499985443941 = 0) ↔ c = 405 from g 5 (by omega), show (lg_cmp (gL m 0 7) 114827803456882 = 0) ↔ c = 406 from g 6 (by omega), show (lg_cmp (gL m 0 7) 6840691 = 0) ↔ c = 407 from g 7 (by omega), show (lg_cmp (gL m 0 7) 1751474544 = 0) ↔ c = 408 from g 8 (by omega), show (lg_cmp (gL m 0 7) 6383461 = 0) ↔ c = 409 from g 9 (by omega), show (lg_cmp (gL m 0 7) 422607680115 = 0) ↔ c = 410 from g 10 (by omega), show (lg_cmp (gL m 0 7) 108243533981541 = 0) ↔ c = 411 from g 11 (by omega), show (lg_cmp (gL m 0 7) 2036687218 = 0) ↔ c = 412 from g 12 (by omega), show (lg_cmp (gL m 0 7) 2003330414 = 0) ↔ c = 413 from g 13 (by omega), show (lg_cmp (gL m 0 7) 28530 = 0) ↔ c = 414 from g 14 (by omega), show (lg_cmp (gL m 0 7) 6385252 = 0) ↔ c = 415 from g 15 (by omega), show (lg_cmp (gL m 0 7) 7237492 = 0) ↔ c = 416 from g 16 (by omega), show (lg_cmp (gL m 0 7) 6384748 = 0) ↔ c = 417 from g 17 (by omega), show (lg_cmp (gL m 0 7) 7302244 = 0) ↔ c = 418 from g 18 (by omega), show (lg_cmp (gL m 0 7) 439956431717 = 0) ↔ c = 419 from g 19 (by omega), show (lg_cmp (gL m 0 7) 474080961907 = 0) ↔ c = 420 from g 20 (by omega), show (lg_cmp (gL m 0 7) 7170414 = 0) ↔ c = 421 from g 21 (by omega), show (lg_cmp (gL m 0 7) 7168376 = 0) ↔ c = 422 from g 22 (by omega)]
  have hcs : c = 300 ∨ c = 400 ∨ c = 401 ∨ c = 402 ∨ c = 403 ∨ c = 404 ∨ c = 405 ∨ c = 406 ∨ c = 407 ∨ c = 408 ∨ c = 409 ∨ c = 410 ∨ c = 411 ∨ c = 412 ∨ c = 413 ∨ c = 414 ∨ c = 415 ∨ c = 416 ∨ c = 417 ∨ c = 418 ∨ c = 419 ∨ c = 420 ∨ c = 421 ∨ c = 422 := by omega
  clear g hc hcl h
  rcases hcs with rfl | rfl | rfl | rfl | rfl | rfl | rfl | rfl | rfl | rfl | rfl | rfl | rfl | rfl | rfl | rfl | rfl | rfl | rfl | rfl | rfl | rfl | rfl | rfl <;> rfl
