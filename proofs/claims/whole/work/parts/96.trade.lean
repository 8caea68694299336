/-! ===== letters move; trade, steal ===== -/
theorem lsum_ge2 {f : Nat → Nat} {n i j : Nat} (hi : i < n) (hj : j < n) (hij : i ≠ j) : f i + f j ≤ lsum (fun _ => 1) f n := by
  induction n with
  | zero => omega
  | succ n ih =>
    rw [lsum, Nat.one_mul]
    by_cases c : i = n
    · have := lsum_ge (f := f) (n := n) (i := j) (by omega)
      rw [c]; omega
    · by_cases c2 : j = n
      · have := lsum_ge (f := f) (n := n) (i := i) (by omega)
        rw [c2]; omega
      · have := ih (by omega) (by omega)
        omega
section Move
variable {ld bk : Nat} {L : LD} {x m : St}
theorem moveB (h : K ld bk L x m) (hT : TW (fun _ => 1) L x ≤ 9999) {r s k : Nat} (hr : r ≤ 8) (hs : s ≤ 8) (hrs : r ≠ s) (hk : k < 26) (h1 : 1 ≤ loN x (26 * r + k)) : ∃ x' m', ((f_X2_change (nI r) (nI k) (-1) x).bind fun q => f_X2_change (nI s) (nI k) 1 q.2) = some ((), x') ∧ sI (sI m 36 (26 * r + k) (gI m 36 (26 * r + k) - 1)) 36 (26 * s + k) (gI (sI m 36 (26 * r + k) (gI m 36 (26 * r + k) - 1)) 36 (26 * s + k) + 1) = m' ∧ K ld bk L x' m' ∧ (∀ W, TW W L x' = TW W L x) ∧ (∀ j, j < 234 → j ≠ 26 * r + k → j ≠ 26 * s + k → loN x' j = loN x j) ∧ (∀ o k, o ≠ 8 → gI x' o k = gI x o k) ∧ ∀ o k, o ≠ 36 → gI m' o k = gI m o k := by
  have l1 := lo_e h (i := 26 * r + k) (by omega)
  have l2 := lo_e h (i := 26 * s + k) (by omega)
  have bd := lsum_ge2 (f := loN x) (n := 234) (i := 26 * r + k) (j := 26 * s + k) (by omega) (by omega) (by omega)
  have tw : TW (fun _ => 1) L x = lsum (fun _ => 1) (loN x) 234 + csum (fun t => nw (fun _ => 1) (L.tn t)) L.nt (coatN x) 8 := rfl
  have k1 := h.lo1 (i := 26 * r + k) (c := loN x (26 * r + k) - 1) (by omega) (by omega)
  have k2 := k1.lo1 (i := 26 * s + k) (c := loN x (26 * s + k) + 1) (by omega) (by omega)
  have eX : nI (loN x (26 * r + k)) + (-1) = nI (loN x (26 * r + k) - 1) := by
    obtain ⟨q, hq⟩ : ∃ q, loN x (26 * r + k) = q + 1 := ⟨_, (Nat.sub_add_cancel h1).symm⟩
    rw [hq, pk_m1, Nat.add_sub_cancel]
  have eM : nI (loN x (26 * r + k)) - 1 = nI (loN x (26 * r + k) - 1) := pk_sub (a := loN x (26 * r + k)) (b := 1) h1
  refine ⟨sI (sI x 8 (26 * r + k) (nI (loN x (26 * r + k) - 1))) 8 (26 * s + k) (nI (loN x (26 * s + k) + 1)), sI (sI m 36 (26 * r + k) (nI (loN x (26 * r + k) - 1))) 36 (26 * s + k) (nI (loN x (26 * s + k) + 1)), ?_, ?_, k2, fun W => ?_, fun j hj n1 n2 => ?_, fun o k ho => by rw [gI_sI, if_neg (fun q => ho q.1), gI_sI, if_neg (fun q => ho q.1)], fun o k ho => by rw [gI_sI, if_neg (fun q => ho q.1), gI_sI, if_neg (fun q => ho q.1)]⟩
  · rw [change_X hr hk, l1.1, eX]
    dsimp only [Option.bind]
    rw [change_X hs hk, gI_sI, if_neg (by omega), l2.1, nI_1]
  · rw [l1.2.1, eM, gI_sI, if_neg (by omega), l2.2.1, nI_1]
  · have a1 := TW_lo (W := W) (L := L) (x := x) (x' := sI x 8 (26 * r + k) (nI (loN x (26 * r + k) - 1))) (i := 26 * r + k) (by omega) (fun k => by rw [gI_sI, if_neg (by omega)]) (fun k hk => by rw [gI_sI, if_neg (fun q => hk q.2)])
    have a2 := TW_lo (W := W) (L := L) (x := sI x 8 (26 * r + k) (nI (loN x (26 * r + k) - 1))) (x' := sI (sI x 8 (26 * r + k) (nI (loN x (26 * r + k) - 1))) 8 (26 * s + k) (nI (loN x (26 * s + k) + 1))) (i := 26 * s + k) (by omega) (fun k => by rw [gI_sI, if_neg (by omega)]) (fun k hk => by rw [gI_sI, if_neg (fun q => hk q.2)])
    have v1 : loN (sI x 8 (26 * r + k) (nI (loN x (26 * r + k) - 1))) (26 * r + k) = loN x (26 * r + k) - 1 := by rw [loN, gI_sI, if_pos ⟨rfl, rfl⟩, nI_clamp (by omega)]
    have v2 : loN (sI x 8 (26 * r + k) (nI (loN x (26 * r + k) - 1))) (26 * s + k) = loN x (26 * s + k) := by rw [loN, gI_sI, if_neg (by omega)]; rfl
    have v3 : loN (sI (sI x 8 (26 * r + k) (nI (loN x (26 * r + k) - 1))) 8 (26 * s + k) (nI (loN x (26 * s + k) + 1))) (26 * s + k) = loN x (26 * s + k) + 1 := by rw [loN, gI_sI, if_pos ⟨rfl, rfl⟩, nI_clamp (by omega)]
    obtain ⟨q, hq⟩ : ∃ q, loN x (26 * r + k) = q + 1 := ⟨_, (Nat.sub_add_cancel h1).symm⟩
    rw [v1, show (26 * r + k) % 26 = k by omega, hq, Nat.add_sub_cancel, Nat.mul_add, Nat.mul_one] at a1
    rw [v2, v3, show (26 * s + k) % 26 = k by omega, Nat.mul_add, Nat.mul_one, hq, Nat.add_sub_cancel] at a2
    rw [hq, Nat.add_sub_cancel]
    omega
  · rw [loN, gI_sI, if_neg (fun q => n2 q.2), gI_sI, if_neg (fun q => n1 q.2)]; rfl
theorem isIn_X {l : List Nat} (h : ∀ c ∈ l, c < 26) (h6 : l.length ≤ 6) {k : Nat} (hk : k < 26) (σ : St) : ∃ b : Bool, (b = true ↔ k ∈ l) ∧ f_X2_isIn (nI (pk5 l)) (nI k) σ = some (bi b, σ) := by
  rw [e_X2_isIn, len_X h h6]
  dsimp only [Option.bind]
  have key : ∀ d i n, i + d = l.length → d < n → (k ∉ l.take i) → ∃ b : Bool, (b = true ↔ k ∈ l) ∧ f_X2_isIn_7 n (nI (pk5 l)) (nI k) (nI l.length) (nI i) σ = some (bi b, σ) := by
    intro d
    induction d with
    | zero =>
      intro i n hi hn hno
      obtain ⟨n, rfl⟩ : ∃ k, n = k + 1 := ⟨n - 1, by omega⟩
      have : i = l.length := by omega
      subst this
      rw [List.take_length] at hno
      exact ⟨false, ⟨fun e => (by cases e), fun e => absurd e hno⟩, by rw [e_X2_isIn_7, if_pos (nI_le (Nat.le_refl _) (by omega))]; rfl⟩
    | succ d ih =>
      intro i n hi hn hno
      obtain ⟨n, rfl⟩ : ∃ k, n = k + 1 := ⟨n - 1, by omega⟩
      have hil : i < l.length := by omega
      have hcl := h _ (List.getElem_mem hil)
      rw [e_X2_isIn_7, if_neg (nI_ge hil (by omega)), letter_X h h6, if_pos (inb_nI hil (by omega)), ix_nI (by omega), show l.getD i 0 = l[i] by simp [List.getD, hil]]
      dsimp only [Option.bind]
      by_cases e : l[i] = k
      · rw [if_pos (by rw [e])]
        exact ⟨true, ⟨fun _ => by rw [← e]; exact List.getElem_mem hil, fun _ => rfl⟩, rfl⟩
      · rw [if_neg (fun q => e ((nI_eq (by omega) (by omega)).mp q)), nI_1]
        refine ih (i + 1) n (by omega) (by omega) ?_
        rw [List.take_succ_eq_append_getElem hil, List.mem_append, List.mem_singleton]
        rintro (q | q)
        · exact hno q
        · exact e q.symm
  exact key l.length 0 FU (by omega) (by rw [FU_eq]; omega) (by rw [List.take_zero]; exact List.not_mem_nil)
/-- the first title of a coat with such a letter -/
theorem withB (h : K ld bk L x m) {p k : Nat} (hp : p < L.np) (hk : k < 26) : (∃ t, t < L.nt ∧ hasT x p t = true ∧ k ∈ L.tn t ∧ f_X2_titleWith (nI p) (nI k) x = some (nI t, x) ∧ f_X11_unpicked (nI p) (nI k) m = some (nI t, m)) ∨ (f_X2_titleWith (nI p) (nI k) x = some (-1, x) ∧ f_X11_unpicked (nI p) (nI k) m = some (-1, m)) := by
  obtain ⟨-, hs, hb, hl, hw, hd⟩ := id h
  have h8 := hl.1.1
  have h12 := hl.2.1.1
  rw [e_X2_titleWith, e_X11_unpicked]
  have key : ∀ d i n n', i + d = L.nt → d < n → d < n' → (∃ t, t < L.nt ∧ hasT x p t = true ∧ k ∈ L.tn t ∧ f_X2_titleWith_2 n (nI p) (nI k) (nI i) x = some (nI t, x) ∧ f_X11_unpicked_2 n' (nI p) (nI k) (nI i) m = some (nI t, m)) ∨ (f_X2_titleWith_2 n (nI p) (nI k) (nI i) x = some (-1, x) ∧ f_X11_unpicked_2 n' (nI p) (nI k) (nI i) m = some (-1, m)) := by
    intro d
    induction d with
    | zero =>
      intro i n n' hi hn hn'
      obtain ⟨n, rfl⟩ : ∃ k, n = k + 1 := ⟨n - 1, by omega⟩
      obtain ⟨n', rfl⟩ : ∃ k, n' = k + 1 := ⟨n' - 1, by omega⟩
      refine Or.inr ⟨?_, ?_⟩
      · rw [e_X2_titleWith_2]
        dsimp only [ltt]
        rw [hs.1, if_pos (landB_of hs.2.1), hl.2.1.2.1, if_pos (nI_le (by omega) (by omega))]
      · rw [e_X11_unpicked_2, hb.2, (bk_ix hb.1).1, if_pos rfl, (bk_ix hb.1).2, hl.2.1.2.2, if_pos (nI_le (by omega) (by omega))]
    | succ d ih =>
      intro i n n' hi hn hn'
      obtain ⟨n, rfl⟩ : ∃ k, n = k + 1 := ⟨n - 1, by omega⟩
      obtain ⟨n', rfl⟩ : ∃ k, n' = k + 1 := ⟨n' - 1, by omega⟩
      have hit : i < L.nt := by omega
      obtain ⟨p1, p6, hc⟩ := nmT hl hit
      have X := e_X2_titleWith_2 n (nI p) (nI k) (nI i) x
      have M := e_X11_unpicked_2 n' (nI p) (nI k) (nI i) m
      dsimp only [ltt] at X
      rw [hs.1, if_pos (landB_of hs.2.1), hl.2.1.2.1, if_neg (nI_ge hit (by omega)), bears_X hs hl hd hp hit, nI_1] at X
      rw [hb.2, (bk_ix hb.1).1, if_pos rfl, (bk_ix hb.1).2, hl.2.1.2.2, if_neg (nI_ge hit (by omega)), hasT_M hl hd (by omega) (by omega), nI_1] at M
      dsimp only [Option.bind] at X M
      cases hh : hasT x p i
      · rw [hh, if_pos (by decide)] at X M
        rw [X, M]
        exact ih (i + 1) n n' (by omega) (by omega) (by omega)
      · rw [hh, if_neg (by decide)] at X M
        rw [hs.1, if_pos (landB_of hs.2.1), nameT_X hs hl hit] at X
        dsimp only at X
        obtain ⟨b, hb1, hb2⟩ := isIn_X hc p6 hk x
        rw [hb2] at X
        dsimp only at X
        rw [often_M hb hl hit hk] at M
        dsimp only at M
        have c6 : (L.tn i).count k ≤ 6 := Nat.le_trans List.count_le_length p6
        by_cases e : k ∈ L.tn i
        · rw [hb1.mpr e, if_neg (by decide)] at X
          rw [if_neg (nI_nle (List.count_pos_iff.mpr e) (by omega))] at M
          exact Or.inl ⟨i, hit, hh, e, X, M⟩
        · have bf : b = false := by cases b; rfl; exact absurd (hb1.mp rfl) e
          rw [bf, if_pos (by decide)] at X
          rw [List.count_eq_zero.mpr e, if_pos (by decide)] at M
          rw [X, M]
          exact ih (i + 1) n n' (by omega) (by omega) (by omega)
  exact key L.nt 0 FU FU (by omega) (by rw [FU_eq]; omega) (by rw [FU_eq]; omega)
theorem step14 : Step_14 RelF := by
  intro a b c e x m h
  obtain ⟨ld, bk, L, k0, rc⟩ := h.op
  obtain ⟨-, hs, hb, hl, hw, hd⟩ := id k0
  have h8 := hl.1.1
  have rf : ∀ m1, f_X11_refuses 2 m1 = some (-1, sI m1 32 2 (gI m1 32 2 + 1)) := fun m1 => rf_M (k := 2) (by omega) m1
  have n1 : ((-1 : Int32) < 0) := by decide
  have M := e_X11_trade a b c e m
  simp only [rf, Option.bind, if_pos n1] at M
  rw [isP_M hb hl] at M
  dsimp only at M
  have bad : ∀ (u v : Int32), f_X10_letterIndex b x = some (u, x) → f_X10_letterIndex e x = some (v, x) → f_X1_swapLetters a u c v x = some (0, x) → f_X11_trade a b c e m = some (0, sI m 32 2 (gI m 32 2 + 1)) → ∃ r σx' σm', f_X10_trade a b c e x = some (r, σx') ∧ f_X11_trade a b c e m = some (r, σm') ∧ RelF σx' σm' := by
    intro u v q1 q2 q3 q4
    refine ⟨0, sI x 2 2 (gI x 2 2 + 1), _, ?_, q4, refuseF h (by omega)⟩
    rw [e_X10_trade, q1]
    dsimp only [Option.bind]
    rw [q2]
    dsimp only
    rw [q3]
    dsimp only
    rw [show (2 : Int32) = nI 2 from rfl, grt_no (by omega)]
    rfl
  obtain ⟨u, eu, cu⟩ : ∃ u, f_X10_letterIndex b x = some (u, x) ∧ ((∃ k, k < 26 ∧ b = nI (97 + k) ∧ u = nI k ∧ f_X11_isLetterCode b m = some (1, m)) ∨ (u = -1 ∧ f_X11_isLetterCode b m = some (0, m))) := by
    rcases letter_cases b x m with ⟨k, hk, hb, e1, e2⟩ | ⟨e1, e2⟩
    · exact ⟨_, e1, Or.inl ⟨k, hk, hb, rfl, e2⟩⟩
    · exact ⟨_, e1, Or.inr ⟨rfl, e2⟩⟩
  obtain ⟨v, ev, cv⟩ : ∃ u, f_X10_letterIndex e x = some (u, x) ∧ ((∃ k, k < 26 ∧ e = nI (97 + k) ∧ u = nI k ∧ f_X11_isLetterCode e m = some (1, m)) ∨ (u = -1 ∧ f_X11_isLetterCode e m = some (0, m))) := by
    rcases letter_cases e x m with ⟨k, hk, hb, e1, e2⟩ | ⟨e1, e2⟩
    · exact ⟨_, e1, Or.inl ⟨k, hk, hb, rfl, e2⟩⟩
    · exact ⟨_, e1, Or.inr ⟨rfl, e2⟩⟩
  have X := e_X1_swapLetters a u c v x
  rw [isP_X hs hl] at X
  dsimp only [Option.bind] at X
  cases hp : inb a L.np
  · rw [hp, if_pos (by decide)] at X M
    exact bad u v eu ev X M
  rw [hp, if_neg (by decide)] at X M
  rw [isP_X hs hl] at X
  rw [isP_M hb hl] at M
  dsimp only at X M
  cases hq : inb c L.np
  · rw [hq, if_pos (by decide)] at X M
    exact bad u v eu ev X M
  rw [hq, if_neg (by decide)] at X M
  by_cases hac : a = c
  · rw [if_pos hac] at X M
    exact bad u v eu ev X M
  rw [if_neg hac] at X M
  rcases cu with ⟨k, hk, hbk, rfl, lu⟩ | ⟨rfl, lu⟩
  · rw [lu] at M
    dsimp only at M
    rw [if_neg (by decide)] at M
    rw [if_neg (nI_ne1 (by omega))] at X
    rcases cv with ⟨l, hl26, hel, rfl, lv⟩ | ⟨rfl, lv⟩
    · rw [lv] at M
      dsimp only at M
      rw [if_neg (by decide)] at M
      rw [if_neg (nI_ne1 (by omega))] at X
      by_cases hkl : k = l
      · subst hkl
        rw [if_pos rfl] at X
        rw [if_pos (by rw [hbk, hel])] at M
        exact bad _ _ eu ev X M
      rw [if_neg (fun q => hkl ((nI_eq (by omega) (by omega)).mp q))] at X
      rw [if_neg (fun q => by rw [hbk, hel] at q; have := (nI_eq (by omega) (by omega)).mp q; omega)] at M
      obtain ⟨p, hp', rfl⟩ := inb_of hp (by omega)
      obtain ⟨q, hq', rfl⟩ := inb_of hq (by omega)
      have hpq : p ≠ q := fun w => hac (by rw [w])
      have b1 : b - 97 = nI k := by rw [hbk, show (97 : Int32) = nI 97 from rfl, pk_sub (by omega), Nat.add_sub_cancel_left]
      have b2 : e - 97 = nI l := by rw [hel, show (97 : Int32) = nI 97 from rfl, pk_sub (by omega), Nat.add_sub_cancel_left]
      have ix2 : ∀ r j, 26 * nI r + nI j = nI (26 * r + j) := fun r j => by rw [show (26 : Int32) = nI 26 from rfl, pk_mul, nI_add]
      have l1 := lo_e k0 (i := 26 * p + k) (by omega)
      have l2 := lo_e k0 (i := 26 * q + l) (by omega)
      dsimp only [ltt] at M
      rw [b1, b2, ix2, ix2, ix2, ix2, inb_nI (show 26 * p + k < 234 by omega) (by omega), inb_nI (show 26 * q + l < 234 by omega) (by omega), inb_nI (show 26 * q + k < 234 by omega) (by omega), inb_nI (show 26 * p + l < 234 by omega) (by omega), ix_nI (show 26 * p + k < 2 ^ 31 by omega), ix_nI (show 26 * q + l < 2 ^ 31 by omega), ix_nI (show 26 * q + k < 2 ^ 31 by omega), ix_nI (show 26 * p + l < 2 ^ 31 by omega)] at M
      simp only [if_true] at M
      rw [count_X (by omega) hk, l1.1] at X
      dsimp only at X
      by_cases z1 : loN x (26 * p + k) = 0
      · rw [z1, if_pos (by decide)] at X
        rw [l1.2.1, z1, if_pos (by decide)] at M
        exact bad _ _ eu ev X M
      rw [if_neg (nI_nle (by omega) (by omega)), count_X (by omega) hl26, l2.1] at X
      dsimp only at X
      have nz1 : ¬ gI m 36 (26 * p + k) = 0 := by rw [l1.2.1]; exact nI_ne0 (by omega) (by omega)
      rw [if_neg nz1] at M
      by_cases z2 : loN x (26 * q + l) = 0
      · rw [z2, if_neg (by decide)] at X
        rw [if_pos (show gI m 36 (26 * q + l) = 0 by rw [l2.2.1, z2]; rfl)] at M
        exact bad _ _ eu ev X M
      rw [if_pos (show (0 : Int32) < nI (loN x (26 * q + l)) from nI_lt (a := 0) (by omega) (by omega))] at X
      have nz2 : ¬ gI m 36 (26 * q + l) = 0 := by rw [l2.2.1]; exact nI_ne0 (by omega) (by omega)
      rw [if_neg nz2] at M
      obtain ⟨x1, m1, e1, e2, k1, tw1, lo1, fx1, fm1⟩ := moveB k0 rc.2.1 (r := p) (s := q) (by omega) (by omega) hpq hk (by omega)
      obtain ⟨x2, m2, e3, e4, k2, tw2, lo2, fx2, fm2⟩ := moveB k1 (by rw [tw1]; exact rc.2.1) (r := q) (s := p) (k := l) (by omega) (by omega) (fun w => hpq w.symm) hl26 (by rw [lo1 _ (by omega) (by omega) (by omega)]; omega)
      rw [e2, e4] at M
      obtain ⟨-, hs2, hb2, hl2, hw2, hd2⟩ := id k2
      have oz2 := oz_e hl2 hk
      obtain ⟨x3, m3, e5, e6, k3, fx3, fm3⟩ := noteB k2 3 (nI p) (nI q) (nI (ozN x2 ld k))
      rw [weight_M hb2 hk, oz2.2.1] at M
      dsimp only at M
      rw [e6] at M
      dsimp only at M
      rw [change_X (by omega) hk] at X e1
      dsimp only [Option.bind] at X e1
      rw [e1] at X
      dsimp only at X
      rw [change_X (by omega) hl26] at X e3
      dsimp only [Option.bind] at X e3
      rw [e3] at X
      dsimp only [ltt] at X
      rw [hs2.1, if_pos (landB_of hs2.2.1), ouncesOf_X hk, oz2.1] at X
      dsimp only at X
      rw [e5] at X
      dsimp only at X
      have l16 := land16 hs.2.1
      have fr : ∀ o k, o ≠ 8 → o ≠ 19 → o ≠ 20 → gI x3 o k = gI x o k := fun o k h1 h2 h3 => by rw [fx3 o k h3 (fun w => h2 w.1), fx2 o k h1, fx1 o k h1]
      refine ⟨1, x3, m3, ?_, M, k3.rel (rc.t (fun r j h1 h2 h3 => ?_) (fun W => ?_) (fr 6 2 (by decide) (by decide) (by decide)) (fr 6 3 (by decide) (by decide) (by decide)) (fun k => fr 9 k (by decide) (by decide) (by decide)) (fun k => fr _ k (by omega) (by omega) (by omega)))⟩
      · rw [e_X10_trade, eu]
        dsimp only [Option.bind]
        rw [ev]
        dsimp only
        rw [X]
        dsimp only
        rw [grt_ok (by decide)]
        rfl
      · have : gI x3 8 (26 * r + j) = gI x2 8 (26 * r + j) := fx3 8 _ (by decide) (by omega)
        rw [loN, this, ← loN, lo2 _ (by omega) (by omega) (by omega), lo1 _ (by omega) (by omega) (by omega)]
      · rw [TW_c (fun k => fx3 7 k (by decide) (by omega)) (fun k => fx3 8 k (by decide) (by omega)), tw2, tw1]
        exact Nat.le_refl _
    · rw [lv] at M
      dsimp only at M
      rw [if_pos rfl] at M
      rw [if_pos rfl] at X
      exact bad _ _ eu ev X M
  · rw [lu] at M
    dsimp only at M
    rw [if_pos rfl] at M
    rw [if_pos rfl] at X
    exact bad _ _ eu ev X M
end Move
