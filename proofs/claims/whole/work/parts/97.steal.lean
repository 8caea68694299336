/-! ===== steal ===== -/
theorem step13 : Step_13 RelF := by
  intro a b c x m h
  obtain ⟨ld, bk, L, k0, rc⟩ := h.op
  obtain ⟨-, hs, hb, hl, hw, hd⟩ := id k0
  have h8 := hl.1.1
  have h12 := hl.2.1.1
  have l16 := land16 hs.2.1
  have rf : ∀ m1, f_X11_refuses 2 m1 = some (-1, sI m1 32 2 (gI m1 32 2 + 1)) := fun m1 => rf_M (k := 2) (by omega) m1
  have n1 : ((-1 : Int32) < 0) := by decide
  have M := e_X11_steal a b c m
  simp only [rf, Option.bind, if_pos n1] at M
  rw [isP_M hb hl] at M
  dsimp only at M
  have bad : ∀ (u : Int32), f_X10_letterIndex c x = some (u, x) → f_X1_takeLetter a b u x = some (0, x) → f_X11_steal a b c m = some (0, sI m 32 2 (gI m 32 2 + 1)) → ∃ r σx' σm', f_X10_steal a b c x = some (r, σx') ∧ f_X11_steal a b c m = some (r, σm') ∧ RelF σx' σm' := by
    intro u q1 q3 q4
    refine ⟨0, sI x 2 2 (gI x 2 2 + 1), _, ?_, q4, refuseF h (by omega)⟩
    rw [e_X10_steal, q1]
    dsimp only [Option.bind]
    rw [q3]
    dsimp only
    rw [show (2 : Int32) = nI 2 from rfl, grt_no (by omega)]
    rfl
  obtain ⟨u, eu, cu⟩ : ∃ u, f_X10_letterIndex c x = some (u, x) ∧ ((∃ k, k < 26 ∧ c = nI (97 + k) ∧ u = nI k ∧ f_X11_isLetterCode c m = some (1, m)) ∨ (u = -1 ∧ f_X11_isLetterCode c m = some (0, m))) := by
    rcases letter_cases c x m with ⟨k, hk, hb, e1, e2⟩ | ⟨e1, e2⟩
    · exact ⟨_, e1, Or.inl ⟨k, hk, hb, rfl, e2⟩⟩
    · exact ⟨_, e1, Or.inr ⟨rfl, e2⟩⟩
  have X := e_X1_takeLetter a b u x
  rw [isP_X hs hl] at X
  dsimp only [Option.bind] at X
  cases hp : inb a L.np
  · rw [hp, if_pos (by decide)] at X M
    exact bad u eu X M
  rw [hp, if_neg (by decide)] at X M
  rw [isP_X hs hl] at X
  rw [isP_M hb hl] at M
  dsimp only at X M
  cases hq : inb b L.np
  · rw [hq, if_pos (by decide)] at X M
    exact bad u eu X M
  rw [hq, if_neg (by decide)] at X M
  by_cases hab : a = b
  · rw [if_pos hab] at X M
    exact bad u eu X M
  rw [if_neg hab] at X M
  rcases cu with ⟨k, hk, hck, rfl, lu⟩ | ⟨rfl, lu⟩
  · rw [lu] at M
    dsimp only at M
    rw [if_neg (by decide)] at M
    rw [if_neg (nI_ne1 (by omega))] at X
    obtain ⟨p, hp', rfl⟩ := inb_of hp (by omega)
    obtain ⟨q, hq', rfl⟩ := inb_of hq (by omega)
    have hpq : p ≠ q := fun w => hab (by rw [w])
    have b1 : c - 97 = nI k := by rw [hck, show (97 : Int32) = nI 97 from rfl, pk_sub (by omega), Nat.add_sub_cancel_left]
    have ix2 : ∀ r j, 26 * nI r + nI j = nI (26 * r + j) := fun r j => by rw [show (26 : Int32) = nI 26 from rfl, pk_mul, nI_add]
    have l1 := lo_e k0 (i := 26 * q + k) (by omega)
    dsimp only [ltt] at M
    rw [b1, ix2, ix2, inb_nI (show 26 * q + k < 234 by omega) (by omega), inb_nI (show 26 * p + k < 234 by omega) (by omega), ix_nI (show 26 * q + k < 2 ^ 31 by omega), ix_nI (show 26 * p + k < 2 ^ 31 by omega)] at M
    simp only [if_true] at M
    rw [count_X (by omega) hk, l1.1] at X
    dsimp only at X
    -- the end of it, from where the letter lies loose
    have fin : ∀ x1 m1, K ld bk L x1 m1 → RCon ld L x1 → 1 ≤ loN x1 (26 * q + k) → f_X1_takeLetter (nI p) (nI q) (nI k) x = ((f_X2_change (nI q) (nI k) (-1 : Int32) x1).bind fun q15 => (f_X2_change (nI p) (nI k) (1 : Int32) q15.2).bind fun q16 => ltt (gR q16.2 6 0) fun g17 => if landB g17 = true then ((f_X4_ouncesOf g17 (nI k) q16.2).bind fun q18 => (f_X1_note (2 : Int32) (nI p) (nI q) q18.1 q18.2).bind fun q19 => some ((1 : Int32), q19.2)) else none) → f_X11_steal (nI p) (nI q) c m = ((f_X11_weight (nI k) (sI (sI m1 36 (26 * q + k) (gI m1 36 (26 * q + k) - 1)) 36 (26 * p + k) (gI (sI m1 36 (26 * q + k) (gI m1 36 (26 * q + k) - 1)) 36 (26 * p + k) + 1))).bind fun q38 => (f_X11_notes (2 : Int32) (nI p) (nI q) q38.1 q38.2).bind fun q39 => some ((1 : Int32), q39.2)) → ∃ r σx' σm', f_X10_steal (nI p) (nI q) c x = some (r, σx') ∧ f_X11_steal (nI p) (nI q) c m = some (r, σm') ∧ RelF σx' σm' := by
      intro x1 m1 k1 rc1 one eX eM
      obtain ⟨x2, m2, e1, e2, k2, tw1, lo1, fx1, fm1⟩ := moveB k1 rc1.2.1 (r := q) (s := p) (by omega) (by omega) (fun w => hpq w.symm) hk one
      obtain ⟨-, hs2, hb2, hl2, hw2, hd2⟩ := id k2
      have oz2 := oz_e hl2 hk
      obtain ⟨x3, m3, e5, e6, k3, fx3, fm3⟩ := noteB k2 2 (nI p) (nI q) (nI (ozN x2 ld k))
      rw [e2, weight_M hb2 hk, oz2.2.1] at eM
      dsimp only [Option.bind] at eM
      rw [e6] at eM
      rw [change_X (by omega) hk] at eX e1
      dsimp only [Option.bind] at eX e1
      rw [e1] at eX
      dsimp only [ltt] at eX
      rw [hs2.1, if_pos (landB_of hs2.2.1), ouncesOf_X hk, oz2.1] at eX
      dsimp only at eX
      rw [e5] at eX
      dsimp only at eX
      have fr : ∀ o k, o ≠ 8 → o ≠ 19 → o ≠ 20 → gI x3 o k = gI x1 o k := fun o k h1 h2 h3 => by rw [fx3 o k h3 (fun w => h2 w.1), fx1 o k h1]
      refine ⟨1, x3, m3, ?_, eM, k3.rel (rc1.t (fun r j h1 h2 h3 => ?_) (fun W => ?_) (fr 6 2 (by decide) (by decide) (by decide)) (fr 6 3 (by decide) (by decide) (by decide)) (fun k => fr 9 k (by decide) (by decide) (by decide)) (fun k => fr _ k (by omega) (by omega) (by omega)))⟩
      · rw [e_X10_steal, eu]
        dsimp only [Option.bind]
        rw [eX]
        dsimp only
        rw [grt_ok (by decide)]
        rfl
      · have : gI x3 8 (26 * r + j) = gI x2 8 (26 * r + j) := fx3 8 _ (by decide) (by omega)
        rw [loN, this, ← loN, lo1 _ (by omega) (by omega) (by omega)]
      · rw [TW_c (fun k => fx3 7 k (by decide) (by omega)) (fun k => fx3 8 k (by decide) (by omega)), tw1]
        exact Nat.le_refl _
    by_cases z : loN x (26 * q + k) = 0
    · rw [z, if_neg (by decide)] at X
      rw [if_pos (show gI m 36 (26 * q + k) = 0 by rw [l1.2.1, z]; rfl)] at M
      rcases withB k0 hq' hk with ⟨t, ht, hh, hkt, t1, t2⟩ | ⟨t1, t2⟩
      · rw [t1] at X
        rw [t2] at M
        dsimp only at X M
        rw [if_neg (nI_ne1 (by omega))] at X M
        obtain ⟨x1, m1, e1, e2, k1, cn, c7, tw, fx, fm⟩ := goB k0 hq' ht hh
        have tt := tw (fun _ => 1)
        rw [nw_1] at tt
        have rt := rc.2.1
        obtain ⟨x2, m2, e3, e4, k2, cl2, tw2, fx2, fm2⟩ := scatB k1 ht (r := q) (by omega) (fun j hj => by
          have := List.count_le_length (a := j) (l := L.tn t)
          have w := lsum_ge (f := loN x1) (n := 234) (i := 26 * q + j) (by omega)
          have : TW (fun _ => 1) L x1 = lsum (fun _ => 1) (loN x1) 234 + csum (fun t => nw (fun _ => 1) (L.tn t)) L.nt (coatN x1) 8 := rfl
          omega)
        rw [e1] at X
        rw [e2] at M
        dsimp only at X M
        rw [e3] at X
        rw [e4] at M
        dsimp only at X M
        have cp := List.count_pos_iff.mpr hkt
        have lo1 : ∀ j, loN x1 j = loN x j := fun j => by rw [loN, loN, fx 8 j (by decide) (by decide) (by omega)]
        have fr : ∀ o k, o ≠ 7 → o ≠ 8 → o ≠ 13 → o ≠ 14 → gI x2 o k = gI x o k := fun o k h1 h2 h3 h4 => by rw [fx2 o k h2, fx o k h1 h4 (fun w => h3 w.1)]
        refine fin x2 m2 k2 (rc.t (fun r j h1 h2 h3 => ?_) (fun W => ?_) (fr 6 2 (by decide) (by decide) (by decide) (by decide)) (fr 6 3 (by decide) (by decide) (by decide) (by decide)) (fun k => fr 9 k (by decide) (by decide) (by decide) (by decide)) (fun k => fr _ k (by omega) (by omega) (by omega) (by omega))) ?_ X M
        · rw [cl2 _ (by omega), if_neg (by omega), Nat.add_zero, lo1]
        · rw [tw2, tw]; exact Nat.le_refl _
        · rw [cl2 _ (by omega), if_pos (by omega), show (26 * q + k) % 26 = k by omega]; omega
      · rw [t1] at X
        rw [t2] at M
        dsimp only at X M
        rw [if_pos rfl] at X M
        exact bad _ eu X M
    · rw [if_pos (show (0 : Int32) < nI (loN x (26 * q + k)) from nI_lt (a := 0) (by omega) (by omega))] at X
      have nz : ¬ gI m 36 (26 * q + k) = 0 := by rw [l1.2.1]; exact nI_ne0 (by omega) (by omega)
      rw [if_neg nz] at M
      exact fin x m k0 rc (by omega) X M
  · rw [lu] at M
    dsimp only at M
    rw [if_pos rfl] at M
    rw [if_pos rfl] at X
    exact bad _ eu X M
