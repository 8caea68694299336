/-! ===== statements, one after the other ===== -/
def HaX (c : Nat) (x : St) (o : Option (Int32 × St)) : Prop := (c = 400 → f_X5_letterOunces x = o) ∧ (c = 401 → f_X5_newPerson x = o) ∧ (c = 405 → f_X5_newTitle x = o) ∧ (c = 407 → f_X5_titleHad x = o) ∧ (c = 408 → f_X5_heapLetters x = o) ∧ (c = 409 → f_X5_newAge x = o) ∧ (c = 410 → f_X5_newLaw x = o) ∧ (c = 411 → f_X5_newBridge x = o) ∧ (c = 412 → f_X5_yearNow x = o) ∧ (c ≠ 400 ∧ c ≠ 401 ∧ c ≠ 405 ∧ c ≠ 407 ∧ c ≠ 408 ∧ c ≠ 409 ∧ c ≠ 410 ∧ c ≠ 411 ∧ c ≠ 412 → f_X6_failHere 1 x = o)
def HaM (c : Nat) (m : St) (o : Option (Unit × St)) : Prop := (c = 400 → f_X11_weighs m = o) ∧ (c = 401 → f_X11_person m = o) ∧ (c = 405 → f_X11_title m = o) ∧ (c = 407 → f_X11_having m = o) ∧ (c = 408 → f_X11_heaping m = o) ∧ (c = 409 → f_X11_ageing m = o) ∧ (c = 410 → f_X11_law m = o) ∧ (c = 411 → f_X11_bridge m = o) ∧ (c = 412 → f_X11_dating m = o) ∧ (c ≠ 400 ∧ c ≠ 401 ∧ c ≠ 405 ∧ c ≠ 407 ∧ c ≠ 408 ∧ c ≠ 409 ∧ c ≠ 410 ∧ c ≠ 411 ∧ c ≠ 412 → f_X11_blame 1 (gI m 0 4) m = o)
noncomputable def fiM (m : St) : Option (Unit × St) := if gI m 0 8 = 0 then (f_X11_must (59 : Int32) m).bind (fun q => some ((), q.2)) else some ((), m)
noncomputable def fiX (r1 N : Nat) (x2 : Int32) (b : Bool) (x : St) : Option (Int32 × St) := if bi b = 0 then (some ((-1 : Int32), x)) else ((f_X5_token (59 : Int32) x).bind fun q9 => if q9.1 = 0 then (some ((-1 : Int32), q9.2)) else ((f_X5_readLand_14 r1 N) (x2 + (1 : Int32)) q9.2))
noncomputable def tlM (x1 : Int32) (σ : St) : Option (Int32 × St) := ltt (sI σ 0 10 (gI σ 0 8)) fun σ1 => ltt (sI σ1 0 11 (gI σ1 0 9)) fun σ2 => if (gI σ2 0 8) ≤ 0 then (ltt (sI σ2 0 12 (gI σ2 0 38)) fun σ3 => (f_X11_begins σ3).bind fun q4 => some (x1, q4.2)) else ((f_X11_refuses (1 : Int32) σ2).bind fun q5 => some (q5.1, q5.2))
theorem e154 (n : Nat) (x1 : Int32) (σ : St) : f_X11_land_154 (n + 1) x1 σ = if (gI σ 0 8) = 0 then (if (gI σ 0 3) = 0 then tlM x1 σ else ((f_X11_statement σ).bind fun q6 => (f_X11_land_154 n) (x1 + (1 : Int32)) q6.2)) else tlM x1 σ := rfl
section Lo
variable {t : Nat → Nat} {n p ls ib A B : Nat} {L : LD} {x m x1 : St}
theorem stat_M {c a e v : Nat} {l : List Nat} {m' : St} (hT : TS t n p c a e l v x m) (h : HaM c m (some ((), m'))) : f_X11_statement m = fiM m' := by
  obtain ⟨h0, h1, h2, h3, h4, h5, h6, h7, h8, h9⟩ := h
  unfold fiM
  rw [e_X11_statement]
  rw [show (119183001281906 : Int64) = wl 0 from rfl]
  rw [show (123581014175598 : Int64) = wl 1 from rfl]
  rw [show (499985443941 : Int64) = wl 5 from rfl]
  rw [show (6840691 : Int64) = wl 7 from rfl]
  rw [show (1751474544 : Int64) = wl 8 from rfl]
  by_cases c0 : c = 400
  · rw [hT.w1 0 (by omega) c0]
    dsimp only [Option.bind]
    rw [if_neg (by decide), h0 c0]
  rw [hT.w0 0 (by omega) c0]
  dsimp only [Option.bind]
  rw [if_pos rfl]
  by_cases c1 : c = 401
  · rw [hT.w1 1 (by omega) c1]
    dsimp only [Option.bind]
    rw [if_neg (by decide), h1 c1]
  rw [hT.w0 1 (by omega) c1]
  dsimp only [Option.bind]
  rw [if_pos rfl]
  by_cases c2 : c = 405
  · rw [hT.w1 5 (by omega) c2]
    dsimp only [Option.bind]
    rw [if_neg (by decide), h2 c2]
  rw [hT.w0 5 (by omega) c2]
  dsimp only [Option.bind]
  rw [if_pos rfl]
  by_cases c3 : c = 407
  · rw [hT.w1 7 (by omega) c3]
    dsimp only [Option.bind]
    rw [if_neg (by decide), h3 c3]
  rw [hT.w0 7 (by omega) c3]
  dsimp only [Option.bind]
  rw [if_pos rfl]
  by_cases c4 : c = 408
  · rw [hT.w1 8 (by omega) c4]
    dsimp only [Option.bind]
    rw [if_neg (by decide), h4 c4]
  rw [hT.w0 8 (by omega) c4]
  dsimp only [Option.bind]
  rw [if_pos rfl]
  rw [e_X11_others]
  rw [show (6383461 : Int64) = wl 9 from rfl]
  rw [show (422607680115 : Int64) = wl 10 from rfl]
  rw [show (108243533981541 : Int64) = wl 11 from rfl]
  rw [show (2036687218 : Int64) = wl 12 from rfl]
  by_cases c5 : c = 409
  · rw [hT.w1 9 (by omega) c5]
    dsimp only [Option.bind]
    rw [if_neg (by decide), h5 c5]
  rw [hT.w0 9 (by omega) c5]
  dsimp only [Option.bind]
  rw [if_pos rfl]
  by_cases c6 : c = 410
  · rw [hT.w1 10 (by omega) c6]
    dsimp only [Option.bind]
    rw [if_neg (by decide), h6 c6]
  rw [hT.w0 10 (by omega) c6]
  dsimp only [Option.bind]
  rw [if_pos rfl]
  by_cases c7 : c = 411
  · rw [hT.w1 11 (by omega) c7]
    dsimp only [Option.bind]
    rw [if_neg (by decide), h7 c7]
  rw [hT.w0 11 (by omega) c7]
  dsimp only [Option.bind]
  rw [if_pos rfl]
  by_cases c8 : c = 412
  · rw [hT.w1 12 (by omega) c8]
    dsimp only [Option.bind]
    rw [if_neg (by decide), h8 c8]
  rw [hT.w0 12 (by omega) c8]
  dsimp only [Option.bind]
  rw [if_pos rfl]
  rw [h9 ⟨c0, c1, c2, c3, c4, c5, c6, c7, c8⟩]
theorem stat_X {c r1 N : Nat} {x2 : Int32} {b : Bool} {x' : St} (hk : ¬ (1600 : Int32) < x2) (hl : f_X6_look x = some (nI c, x1)) (hl1 : f_X6_look x1 = some (nI c, x1)) (hc : c ≠ 302) (hc5 : c < 500) (h : HaX c x1 (some (bi b, x'))) : f_X5_readLand_14 r1 (N + 1) x2 x = fiX r1 N x2 b x' := by
  obtain ⟨h0, h1, h2, h3, h4, h5, h6, h7, h8, h9⟩ := h
  unfold fiX
  rw [e_X5_readLand_14, if_neg hk, hl]
  dsimp only [Option.bind]
  rw [if_neg (show ¬ nI c = (302 : Int32) from nI_ne (k := 302) hc5 (by omega) hc), hl1]
  dsimp only
  by_cases c400 : c = 400
  · rw [if_pos (by rw [c400]; rfl), h0 c400]
  rw [if_neg (show ¬ nI c = (400 : Int32) from nI_ne (k := 400) hc5 (by omega) c400)]
  by_cases c401 : c = 401
  · rw [if_pos (by rw [c401]; rfl), h1 c401]
  rw [if_neg (show ¬ nI c = (401 : Int32) from nI_ne (k := 401) hc5 (by omega) c401)]
  by_cases c402 : c = 402
  · rw [if_pos (by rw [c402]; rfl), h9 (by omega)]
  rw [if_neg (show ¬ nI c = (402 : Int32) from nI_ne (k := 402) hc5 (by omega) c402)]
  by_cases c403 : c = 403
  · rw [if_pos (by rw [c403]; rfl), h9 (by omega)]
  rw [if_neg (show ¬ nI c = (403 : Int32) from nI_ne (k := 403) hc5 (by omega) c403)]
  by_cases c404 : c = 404
  · rw [if_pos (by rw [c404]; rfl), h9 (by omega)]
  rw [if_neg (show ¬ nI c = (404 : Int32) from nI_ne (k := 404) hc5 (by omega) c404)]
  by_cases c405 : c = 405
  · rw [if_pos (by rw [c405]; rfl), h2 c405]
  rw [if_neg (show ¬ nI c = (405 : Int32) from nI_ne (k := 405) hc5 (by omega) c405)]
  by_cases c406 : c = 406
  · rw [if_pos (by rw [c406]; rfl), h9 (by omega)]
  rw [if_neg (show ¬ nI c = (406 : Int32) from nI_ne (k := 406) hc5 (by omega) c406)]
  by_cases c407 : c = 407
  · rw [if_pos (by rw [c407]; rfl), h3 c407]
  rw [if_neg (show ¬ nI c = (407 : Int32) from nI_ne (k := 407) hc5 (by omega) c407)]
  by_cases c408 : c = 408
  · rw [if_pos (by rw [c408]; rfl), h4 c408]
  rw [if_neg (show ¬ nI c = (408 : Int32) from nI_ne (k := 408) hc5 (by omega) c408)]
  by_cases c409 : c = 409
  · rw [if_pos (by rw [c409]; rfl), h5 c409]
  rw [if_neg (show ¬ nI c = (409 : Int32) from nI_ne (k := 409) hc5 (by omega) c409)]
  by_cases c410 : c = 410
  · rw [if_pos (by rw [c410]; rfl), h6 c410]
  rw [if_neg (show ¬ nI c = (410 : Int32) from nI_ne (k := 410) hc5 (by omega) c410)]
  by_cases c411 : c = 411
  · rw [if_pos (by rw [c411]; rfl), h7 c411]
  rw [if_neg (show ¬ nI c = (411 : Int32) from nI_ne (k := 411) hc5 (by omega) c411)]
  by_cases c412 : c = 412
  · rw [if_pos (by rw [c412]; rfl), h8 c412]
  rw [if_neg (show ¬ nI c = (412 : Int32) from nI_ne (k := 412) hc5 (by omega) c412)]
  rw [h9 (by omega)]
theorem stB {c a e v : Nat} {l : List Nat} (hT : TS t n p c a e l v x m) (hc : c ≠ 302) (hP : RP ls ib L x m A B) (hA : A ≤ p) (hB : B ≤ p) : ∃ b x' m', HaX c x (some (bi b, x')) ∧ HaM c m (some ((), m')) ∧ StL t n p ls ib b x m x' m' := by
  by_cases c0 : c = 400
  · obtain ⟨b, x', m', h1, h2, h3⟩ := stLetter hT hc hP hA hB
    exact ⟨b, x', m', ⟨fun _ => h1, fun z => absurd (c0.symm.trans z) (by decide), fun z => absurd (c0.symm.trans z) (by decide), fun z => absurd (c0.symm.trans z) (by decide), fun z => absurd (c0.symm.trans z) (by decide), fun z => absurd (c0.symm.trans z) (by decide), fun z => absurd (c0.symm.trans z) (by decide), fun z => absurd (c0.symm.trans z) (by decide), fun z => absurd (c0.symm.trans z) (by decide), fun z => absurd c0 z.1⟩, ⟨fun _ => h2, fun z => absurd (c0.symm.trans z) (by decide), fun z => absurd (c0.symm.trans z) (by decide), fun z => absurd (c0.symm.trans z) (by decide), fun z => absurd (c0.symm.trans z) (by decide), fun z => absurd (c0.symm.trans z) (by decide), fun z => absurd (c0.symm.trans z) (by decide), fun z => absurd (c0.symm.trans z) (by decide), fun z => absurd (c0.symm.trans z) (by decide), fun z => absurd c0 z.1⟩, .inl h3⟩
  by_cases c1 : c = 401
  · obtain ⟨b, x', m', h1, h2, h3⟩ := stPerson hT hc hP hA hB
    exact ⟨b, x', m', ⟨fun z => absurd (c1.symm.trans z) (by decide), fun _ => h1, fun z => absurd (c1.symm.trans z) (by decide), fun z => absurd (c1.symm.trans z) (by decide), fun z => absurd (c1.symm.trans z) (by decide), fun z => absurd (c1.symm.trans z) (by decide), fun z => absurd (c1.symm.trans z) (by decide), fun z => absurd (c1.symm.trans z) (by decide), fun z => absurd (c1.symm.trans z) (by decide), fun z => absurd c1 z.2.1⟩, ⟨fun z => absurd (c1.symm.trans z) (by decide), fun _ => h2, fun z => absurd (c1.symm.trans z) (by decide), fun z => absurd (c1.symm.trans z) (by decide), fun z => absurd (c1.symm.trans z) (by decide), fun z => absurd (c1.symm.trans z) (by decide), fun z => absurd (c1.symm.trans z) (by decide), fun z => absurd (c1.symm.trans z) (by decide), fun z => absurd (c1.symm.trans z) (by decide), fun z => absurd c1 z.2.1⟩, .inl h3⟩
  by_cases c2 : c = 405
  · obtain ⟨b, x', m', h1, h2, h3⟩ := stTitle hT hc hP hA hB
    exact ⟨b, x', m', ⟨fun z => absurd (c2.symm.trans z) (by decide), fun z => absurd (c2.symm.trans z) (by decide), fun _ => h1, fun z => absurd (c2.symm.trans z) (by decide), fun z => absurd (c2.symm.trans z) (by decide), fun z => absurd (c2.symm.trans z) (by decide), fun z => absurd (c2.symm.trans z) (by decide), fun z => absurd (c2.symm.trans z) (by decide), fun z => absurd (c2.symm.trans z) (by decide), fun z => absurd c2 z.2.2.1⟩, ⟨fun z => absurd (c2.symm.trans z) (by decide), fun z => absurd (c2.symm.trans z) (by decide), fun _ => h2, fun z => absurd (c2.symm.trans z) (by decide), fun z => absurd (c2.symm.trans z) (by decide), fun z => absurd (c2.symm.trans z) (by decide), fun z => absurd (c2.symm.trans z) (by decide), fun z => absurd (c2.symm.trans z) (by decide), fun z => absurd (c2.symm.trans z) (by decide), fun z => absurd c2 z.2.2.1⟩, .inl h3⟩
  by_cases c3 : c = 407
  · obtain ⟨b, x', m', h1, h2, h3⟩ := stHad hT hc hP hA hB
    exact ⟨b, x', m', ⟨fun z => absurd (c3.symm.trans z) (by decide), fun z => absurd (c3.symm.trans z) (by decide), fun z => absurd (c3.symm.trans z) (by decide), fun _ => h1, fun z => absurd (c3.symm.trans z) (by decide), fun z => absurd (c3.symm.trans z) (by decide), fun z => absurd (c3.symm.trans z) (by decide), fun z => absurd (c3.symm.trans z) (by decide), fun z => absurd (c3.symm.trans z) (by decide), fun z => absurd c3 z.2.2.2.1⟩, ⟨fun z => absurd (c3.symm.trans z) (by decide), fun z => absurd (c3.symm.trans z) (by decide), fun z => absurd (c3.symm.trans z) (by decide), fun _ => h2, fun z => absurd (c3.symm.trans z) (by decide), fun z => absurd (c3.symm.trans z) (by decide), fun z => absurd (c3.symm.trans z) (by decide), fun z => absurd (c3.symm.trans z) (by decide), fun z => absurd (c3.symm.trans z) (by decide), fun z => absurd c3 z.2.2.2.1⟩, .inl h3⟩
  by_cases c4 : c = 408
  · obtain ⟨b, x', m', h1, h2, h3⟩ := stHeap hT hc hP hA hB
    exact ⟨b, x', m', ⟨fun z => absurd (c4.symm.trans z) (by decide), fun z => absurd (c4.symm.trans z) (by decide), fun z => absurd (c4.symm.trans z) (by decide), fun z => absurd (c4.symm.trans z) (by decide), fun _ => h1, fun z => absurd (c4.symm.trans z) (by decide), fun z => absurd (c4.symm.trans z) (by decide), fun z => absurd (c4.symm.trans z) (by decide), fun z => absurd (c4.symm.trans z) (by decide), fun z => absurd c4 z.2.2.2.2.1⟩, ⟨fun z => absurd (c4.symm.trans z) (by decide), fun z => absurd (c4.symm.trans z) (by decide), fun z => absurd (c4.symm.trans z) (by decide), fun z => absurd (c4.symm.trans z) (by decide), fun _ => h2, fun z => absurd (c4.symm.trans z) (by decide), fun z => absurd (c4.symm.trans z) (by decide), fun z => absurd (c4.symm.trans z) (by decide), fun z => absurd (c4.symm.trans z) (by decide), fun z => absurd c4 z.2.2.2.2.1⟩, .inl h3⟩
  by_cases c5 : c = 409
  · obtain ⟨b, x', m', h1, h2, h3⟩ := stAge hT hc hP hA hB
    exact ⟨b, x', m', ⟨fun z => absurd (c5.symm.trans z) (by decide), fun z => absurd (c5.symm.trans z) (by decide), fun z => absurd (c5.symm.trans z) (by decide), fun z => absurd (c5.symm.trans z) (by decide), fun z => absurd (c5.symm.trans z) (by decide), fun _ => h1, fun z => absurd (c5.symm.trans z) (by decide), fun z => absurd (c5.symm.trans z) (by decide), fun z => absurd (c5.symm.trans z) (by decide), fun z => absurd c5 z.2.2.2.2.2.1⟩, ⟨fun z => absurd (c5.symm.trans z) (by decide), fun z => absurd (c5.symm.trans z) (by decide), fun z => absurd (c5.symm.trans z) (by decide), fun z => absurd (c5.symm.trans z) (by decide), fun z => absurd (c5.symm.trans z) (by decide), fun _ => h2, fun z => absurd (c5.symm.trans z) (by decide), fun z => absurd (c5.symm.trans z) (by decide), fun z => absurd (c5.symm.trans z) (by decide), fun z => absurd c5 z.2.2.2.2.2.1⟩, .inl h3⟩
  by_cases c6 : c = 410
  · obtain ⟨b, x', m', h1, h2, h3⟩ := stLaw hT hc hP hA hB
    exact ⟨b, x', m', ⟨fun z => absurd (c6.symm.trans z) (by decide), fun z => absurd (c6.symm.trans z) (by decide), fun z => absurd (c6.symm.trans z) (by decide), fun z => absurd (c6.symm.trans z) (by decide), fun z => absurd (c6.symm.trans z) (by decide), fun z => absurd (c6.symm.trans z) (by decide), fun _ => h1, fun z => absurd (c6.symm.trans z) (by decide), fun z => absurd (c6.symm.trans z) (by decide), fun z => absurd c6 z.2.2.2.2.2.2.1⟩, ⟨fun z => absurd (c6.symm.trans z) (by decide), fun z => absurd (c6.symm.trans z) (by decide), fun z => absurd (c6.symm.trans z) (by decide), fun z => absurd (c6.symm.trans z) (by decide), fun z => absurd (c6.symm.trans z) (by decide), fun z => absurd (c6.symm.trans z) (by decide), fun _ => h2, fun z => absurd (c6.symm.trans z) (by decide), fun z => absurd (c6.symm.trans z) (by decide), fun z => absurd c6 z.2.2.2.2.2.2.1⟩, h3⟩
  by_cases c7 : c = 411
  · obtain ⟨b, x', m', h1, h2, h3⟩ := stBridge hT hc hP hA hB
    exact ⟨b, x', m', ⟨fun z => absurd (c7.symm.trans z) (by decide), fun z => absurd (c7.symm.trans z) (by decide), fun z => absurd (c7.symm.trans z) (by decide), fun z => absurd (c7.symm.trans z) (by decide), fun z => absurd (c7.symm.trans z) (by decide), fun z => absurd (c7.symm.trans z) (by decide), fun z => absurd (c7.symm.trans z) (by decide), fun _ => h1, fun z => absurd (c7.symm.trans z) (by decide), fun z => absurd c7 z.2.2.2.2.2.2.2.1⟩, ⟨fun z => absurd (c7.symm.trans z) (by decide), fun z => absurd (c7.symm.trans z) (by decide), fun z => absurd (c7.symm.trans z) (by decide), fun z => absurd (c7.symm.trans z) (by decide), fun z => absurd (c7.symm.trans z) (by decide), fun z => absurd (c7.symm.trans z) (by decide), fun z => absurd (c7.symm.trans z) (by decide), fun _ => h2, fun z => absurd (c7.symm.trans z) (by decide), fun z => absurd c7 z.2.2.2.2.2.2.2.1⟩, .inl h3⟩
  by_cases c8 : c = 412
  · obtain ⟨b, x', m', h1, h2, h3⟩ := stYear hT hc hP hA hB
    exact ⟨b, x', m', ⟨fun z => absurd (c8.symm.trans z) (by decide), fun z => absurd (c8.symm.trans z) (by decide), fun z => absurd (c8.symm.trans z) (by decide), fun z => absurd (c8.symm.trans z) (by decide), fun z => absurd (c8.symm.trans z) (by decide), fun z => absurd (c8.symm.trans z) (by decide), fun z => absurd (c8.symm.trans z) (by decide), fun z => absurd (c8.symm.trans z) (by decide), fun _ => h1, fun z => absurd c8 z.2.2.2.2.2.2.2.2⟩, ⟨fun z => absurd (c8.symm.trans z) (by decide), fun z => absurd (c8.symm.trans z) (by decide), fun z => absurd (c8.symm.trans z) (by decide), fun z => absurd (c8.symm.trans z) (by decide), fun z => absurd (c8.symm.trans z) (by decide), fun z => absurd (c8.symm.trans z) (by decide), fun z => absurd (c8.symm.trans z) (by decide), fun z => absurd (c8.symm.trans z) (by decide), fun _ => h2, fun z => absurd c8 z.2.2.2.2.2.2.2.2⟩, .inl h3⟩
  obtain ⟨x', m', a1, a2, a3, a4, a5, a6, -⟩ := hT.fail (k := 1) (by decide)
  exact ⟨false, x', m', ⟨fun z => absurd z c0, fun z => absurd z c1, fun z => absurd z c2, fun z => absurd z c3, fun z => absurd z c4, fun z => absurd z c5, fun z => absurd z c6, fun z => absurd z c7, fun z => absurd z c8, fun _ => a1⟩, ⟨fun z => absurd z c0, fun z => absurd z c1, fun z => absurd z c2, fun z => absurd z c3, fun z => absurd z c4, fun z => absurd z c5, fun z => absurd z c6, fun z => absurd z c7, fun z => absurd z c8, fun _ => a2⟩, .inl ⟨FL.t a3 a4, .inr ⟨rfl, a6⟩⟩⟩
theorem fiM_n {m : St} (h : ¬ gI m 0 8 = 0) : fiM m = some ((), m) := by unfold fiM; rw [if_neg h]
theorem fiM_t {m m2 : St} (h : (if gI m 0 8 = 0 then f_X11_must (nI 59) m else some ((), m)) = some ((), m2)) : fiM m = some ((), m2) := by
  unfold fiM
  by_cases c : gI m 0 8 = 0
  · rw [if_pos c] at h ⊢
    rw [show (59 : Int32) = nI 59 from rfl, h]; rfl
  · rw [if_neg c] at h ⊢; exact h
def EnL (t : Nat → Nat) (n ls ib r1 k N N' : Nat) (x m x' m' : St) : Prop := (f_X5_readLand_14 r1 N (nI k) x = some (-1, x') ∧ (∃ w, f_X11_land_154 N' (nI k) m = tlM w m') ∧ Bd x' m') ∨ (∃ k' L A B, k' ≤ 1600 ∧ f_X5_readLand_14 r1 N (nI k) x = ((f_X4_weighTitles ls x').bind fun q => some (nI k', q.2)) ∧ f_X11_land_154 N' (nI k) m = tlM (nI k') m' ∧ gI m' 0 8 = 0 ∧ gI x' 3 8 = 0 ∧ gI x' 3 9 = -1 ∧ gI m' 0 9 = -1 ∧ (A ≤ 1600 ∧ B ≤ 1600) ∧ RP ls ib L x' m' A B)
theorem loopL (hls : isLand ls) (r1 : Nat) : ∀ d p k N N' x m, n + 1 - p ≤ d → d + 1 < N → d + 1 < N' → k ≤ p → NX t n p x m → (gI m 0 8 = 0 → ∃ L A B, A ≤ p ∧ B ≤ p ∧ RP ls ib L x m A B) → ∃ x' m', FL ls ib x m x' m' ∧ EnL t n ls ib r1 k N N' x m x' m' := by
  intro d
  induction d with
  | zero => intro p k N N' x m h1 _ _ _ hN; have := hN.2.1; omega
  | succ d ih =>
    intro p k N N' x m h1 h2 h3 hk hN hP
    have hpn := hN.2.1
    have hn := hN.1.2.1
    obtain ⟨N, rfl⟩ : ∃ z, N = z + 1 := ⟨N - 1, by omega⟩
    obtain ⟨N', rfl⟩ : ∃ z, N' = z + 1 + 1 := ⟨N' - 2, by omega⟩
    have hk' : ¬ (1600 : Int32) < nI k := nI_nlt (a := 1600) (by omega) (by omega)
    have endM : ∀ (w : Int32) (m' : St), ¬ gI m' 0 8 = 0 → f_X11_land_154 (N' + 1) w m' = tlM w m' := fun w m' z => by rw [e154, if_neg z]
    rcases hN.lk with ⟨x1, e1, e2, e3, e4⟩ | ⟨c, a, e, l, v, x1, e1, e2, e3, hT⟩
    · refine ⟨x1, m, FL.t e2 (TM.rf _), .inl ⟨?_, ⟨nI k, by rw [e154, if_neg e4.f.1]⟩, e4⟩⟩
      have X := stat_X (r1 := r1) (N := N) (c := 303) (b := false) hk' e1 e4.look (by omega) (by omega) (x' := x1) ⟨fun z => absurd z (by decide), fun z => absurd z (by decide), fun z => absurd z (by decide), fun z => absurd z (by decide), fun z => absurd z (by decide), fun z => absurd z (by decide), fun z => absurd z (by decide), fun z => absurd z (by decide), fun z => absurd z (by decide), fun _ => e4.here 1⟩
      rw [X]; rfl
    have h0 := hT.2.2.2.2.1
    obtain ⟨L, A, B, hA, hB, hR⟩ := hP h0
    have hR1 : RP ls ib L x1 m A B := hR.t e2 (TM.rf _)
    have m3 := hT.2.2.2.2.2.2.1
    by_cases hc : c = 302
    · refine ⟨x1, m, FL.t e2 (TM.rf _), .inr ⟨k, L, A, B, by omega, ?_, ?_, h0, hT.2.2.2.1.2.2.2.2.2.2.2, hT.1.2.2.2.2.1 hT.2.2.2.1.2.2.2.2.2.2.2, hT.1.2.2.2.2.2 h0, ⟨by omega, by omega⟩, hR1⟩⟩
      · rw [e_X5_readLand_14, if_neg hk', e1]
        dsimp only [Option.bind, ltt]
        rw [if_pos (by rw [hc]; rfl), hR1.1.2.2.1, if_pos (landB_of hls)]
      · rw [if_pos hc] at m3
        rw [e154, if_pos h0, if_pos (show gI m 0 3 = 0 from m3)]
    have hcl := hT.cl
    have m3' : ¬ gI m 0 3 = 0 := by
      rw [m3, if_neg hc]
      by_cases c1 : c < 256
      · rw [if_pos c1]; decide
      · rw [if_neg c1]
        by_cases c2 : c = 301
        · rw [if_pos c2]; decide
        · rw [if_neg c2]; decide
    obtain ⟨b, x2, m2, k1, k2, k3⟩ := stB hT hc hR1 hA hB
    have X := stat_X (r1 := r1) (N := N) hk' e1 hT.look hc hcl k1
    have M : f_X11_land_154 (N' + 1 + 1) (nI k) m = (fiM m2).bind fun q6 => f_X11_land_154 (N' + 1) (nI k + 1) q6.2 := by rw [e154, if_pos h0, if_neg m3', stat_M hT k2]
    have fl1 : FL ls ib x m x1 m := FL.t e2 (TM.rf _)
    unfold fiX at X
    rcases k3 with ⟨fl2, ⟨rfl, p', g1, g2, g3⟩ | ⟨rfl, g1⟩⟩ | ⟨rfl, fl2, g1⟩
    · obtain ⟨b2, x3, m3, t1, t2, t3, t4, t5, t6, t7⟩ := tokS g2 (k := 59) (by omega)
      have t1' : f_X5_token 59 x2 = some (bi b2, x3) := t1
      rw [bT, t1'] at X
      rw [fiM_t t2] at M
      dsimp only [Option.bind] at X M
      have fl3 : FL ls ib x m x3 m3 := (fl1.tr fl2).tr (FL.t t4 t5)
      rcases t7 with ⟨rfl, p3, t8, t9⟩ | ⟨rfl, t8⟩
      · rw [bT, nI_1] at X
        rw [nI_1] at M
        obtain ⟨x', m', i1, i2⟩ := ih p3 (k + 1) N (N' + 1) x3 m3 (by omega) (by omega) (by omega) (by omega) t9 (fun z => by
          have z' : gI m2 0 8 = 0 := Classical.byContradiction fun q => by have := (t6 q).1; cases this
          obtain ⟨L', A', B', q1, q2, q3⟩ := g3 z'
          exact ⟨L', A', B', by omega, by omega, q3.t t4 t5⟩)
        refine ⟨x', m', fl3.tr i1, ?_⟩
        rcases i2 with ⟨j1, ⟨w, j2⟩, j3⟩ | ⟨k', L', A', B', j1, j2, j3, j4⟩
        · exact .inl ⟨X.trans j1, ⟨w, M.trans j2⟩, j3⟩
        · exact .inr ⟨k', L', A', B', j1, X.trans j2, M.trans j3, j4⟩
      · exact ⟨x3, m3, fl3, .inl ⟨X, ⟨_, M.trans (endM _ _ t8.f.1)⟩, t8⟩⟩
    · rw [fiM_n g1.f.1] at M
      exact ⟨x2, m2, fl1.tr fl2, .inl ⟨X, ⟨_, M.trans (endM _ _ g1.f.1)⟩, g1⟩⟩
    · rw [fiM_n g1.f.1] at M
      have t1' : f_X5_token 59 x2 = some (0, x2) := tok_bad (k := 59) g1.look g1 (by omega) (by omega)
      rw [bT, t1'] at X
      exact ⟨x2, m2, fl1.tr fl2, .inl ⟨X, ⟨_, M.trans (endM _ _ g1.f.1)⟩, g1⟩⟩
end Lo
