/-! ===== the next word of the text, there ===== -/
theorem blame_0 {k q : Int32} {σ : St} (h : gI σ 0 8 = 0) : f_X11_blame k q σ = some ((), sI (sI σ 0 8 k) 0 9 q) := by
  rw [e_X11_blame, if_pos (by rw [h]; decide)]; rfl
theorem blame_1 {j : Nat} {k q : Int32} {σ : St} (hj : 1 ≤ j ∧ j ≤ 5) (h : gI σ 0 8 = nI j) : f_X11_blame k q σ = some ((), σ) := by
  rw [e_X11_blame, if_neg (by rw [h]; exact nI_nle (by omega) (by omega))]
section Lk
variable {t : Nat → Nat} {n : Nat}
theorem blM {σ : St} (ht : TpM t σ) (hb : ∀ i, t i < 256) (hn : n ≤ 1600) (e2 : gI σ 0 2 = nI n) {a p0 : Nat} (hr : Run bl1 t n p0 a) : ∀ d p N, p0 ≤ p → p + d = a → d < N → f_X11_ahead_5 N (nI p) σ = f_X11_ahead_41 (nI a) σ := by
  obtain ⟨r1, r2, r3, r4⟩ := hr
  intro d
  induction d with
  | zero =>
    intro p N h0 hp hN
    obtain ⟨N, rfl⟩ : ∃ k, N = k + 1 := ⟨N - 1, by omega⟩
    obtain rfl : p = a := by omega
    rw [e_X11_ahead_5, e2]
    by_cases c : n ≤ p
    · rw [if_pos (nI_le c (by omega))]
    · have q := r4 (by omega)
      have hlt := hb p
      simp only [bl1, Bool.or_eq_false_iff, decide_eq_false_iff_not] at q
      rw [if_neg (nI_ge (by omega) (by omega)), if_pos (inb_nI (by omega) (by omega)), ix_nI (by omega), ht p (by omega), show (10 : Int32) = nI 10 from rfl, show (32 : Int32) = nI 32 from rfl, if_neg (fun e => q.1 ((nI_eq (by omega) (by omega)).mp e)), if_pos (inb_nI (by omega) (by omega)), if_neg (fun e => q.2 ((nI_eq (by omega) (by omega)).mp e))]
  | succ d ih =>
    intro p N h0 hp hN
    obtain ⟨N, rfl⟩ : ∃ k, N = k + 1 := ⟨N - 1, by omega⟩
    have q := r3 p h0 (by omega)
    have hlt := hb p
    simp only [bl1, Bool.or_eq_true, decide_eq_true_eq] at q
    rw [e_X11_ahead_5, e2, if_neg (nI_ge (by omega) (by omega)), if_pos (inb_nI (by omega) (by omega)), ix_nI (by omega), ht p (by omega), show (10 : Int32) = nI 10 from rfl, show (32 : Int32) = nI 32 from rfl, nI_1, ih (p + 1) N (by omega) (by omega) (by omega)]
    rcases q with q | q
    · rw [q, if_pos rfl]
    · rw [q, if_neg (by decide), if_pos (inb_nI (by omega) (by omega)), if_pos rfl]
/-- the fault of a store, or none yet -/
def FtM (f q : Nat) (σ : St) : Prop := gI σ 0 8 = nI f ∧ (f = 0 ∨ f = 1 ∧ gI σ 0 9 = nI q)
abbrev zM (σ : St) (a : Nat) : St := sI (sI (sI σ 0 4 (nI a)) 0 5 (nI a)) 0 3 0
theorem zM_t (σ : St) (a : Nat) : TM σ (zM σ a) := ((TM.s (by decide)).tr (TM.s (by decide))).tr (TM.s (by decide))
theorem zM_3 (σ : St) (a : Nat) : gI (zM σ a) 0 2 = gI σ 0 2 ∧ gI (zM σ a) 0 3 = 0 ∧ gI (zM σ a) 0 4 = nI a ∧ gI (zM σ a) 0 5 = nI a ∧ gI (zM σ a) 0 8 = gI σ 0 8 ∧ gI (zM σ a) 0 9 = gI σ 0 9 := by
  refine ⟨?_, ge_s, ?_, ?_, ?_, ?_⟩
  · rw [ge_n (by decide), ge_n (by decide), ge_n (by decide)]
  · rw [ge_n (by decide), ge_n (by decide), ge_s]
  · rw [ge_n (by decide), ge_s]
  · rw [ge_n (by decide), ge_n (by decide), ge_n (by decide)]
  · rw [ge_n (by decide), ge_n (by decide), ge_n (by decide)]
/-- what it holds ahead -/
def MK (n c a e : Nat) (l : List Nat) (v : Nat) (m : St) : Prop := gI m 0 2 = nI n ∧ gI m 0 3 = nI (if c = 302 then 0 else if c < 256 then 3 else if c = 301 then 2 else 1) ∧ gI m 0 4 = nI a ∧ gI m 0 5 = nI e ∧ (c = 301 → gI m 0 6 = nI v) ∧ (c < 256 → gI m 0 6 = nI c) ∧ (c = 300 ∨ 400 ≤ c → gL m 0 7 = lN (pk8 l))
theorem ah_go {σ : St} (ht : TpM t σ) (hb : ∀ i, t i < 256) (hn : n ≤ 1600) (e2 : gI σ 0 2 = nI n) {p a : Nat} (e5 : gI σ 0 5 = nI p) (hr : Run bl1 t n p a) : f_X11_ahead σ = f_X11_ahead_41 (nI a) σ := by
  have hr1 := hr.1
  have hr2 := hr.2.1
  rw [e_X11_ahead]
  dsimp only [ltt]
  rw [e5]
  exact blM ht hb hn e2 hr (a - p) p FU (by omega) (by omega) (by rw [FU_eq]; omega)
theorem ah_end {σ : St} (ht : TpM t σ) (hb : ∀ i, t i < 256) (hn : n ≤ 1600) (e2 : gI σ 0 2 = nI n) {p : Nat} (e5 : gI σ 0 5 = nI p) (e8 : gI σ 0 8 = 0) (hr : Run bl1 t n p n) : ∃ m1, f_X11_ahead σ = some ((), m1) ∧ TM σ m1 ∧ gI m1 0 8 = 0 ∧ MK n 302 n n [] 0 m1 := by
  obtain ⟨z2, z3, z4, z5, z8, z9⟩ := zM_3 σ n
  refine ⟨zM σ n, ?_, zM_t σ n, z8.trans e8, z2.trans e2, z3, z4, z5, fun e => by omega, fun e => by omega, fun e => by omega⟩
  rw [ah_go ht hb hn e2 e5 hr, e_X11_ahead_41]
  dsimp only [ltt]
  rw [show gI (sI (sI (sI σ 0 4 (nI n)) 0 5 (nI n)) 0 3 0) 0 2 = nI n from z2.trans e2, if_neg (nI_nlt (by omega) (by omega))]
/-- ahead of a letter or a digit, or of a sign: whether something touches it from before -/
theorem ah_at {σ : St} (ht : TpM t σ) (hb : ∀ i, t i < 256) (hn : n ≤ 1600) (e2 : gI σ 0 2 = nI n) {p a : Nat} (e5 : gI σ 0 5 = nI p) (e8 : gI σ 0 8 = 0) (hr : Run bl1 t n p a) (ha : a < n) : f_X11_ahead σ = f_X11_ahead_131 (nI a) (bi (let1 (t a))) (bi (dig1 (t a))) (if (let1 (t a) || dig1 (t a)) && decide (0 < a) && (let1 (t (a - 1)) || dig1 (t (a - 1))) then sI (sI (zM σ a) 0 8 1) 0 9 (nI a) else zM σ a) := by
  obtain ⟨z2, z3, z4, z5, z8, z9⟩ := zM_3 σ a
  have hz := ht.c (zM_t σ a)
  rw [ah_go ht hb hn e2 e5 hr, e_X11_ahead_41]
  dsimp only [ltt]
  rw [show sI (sI (sI σ 0 4 (nI a)) 0 5 (nI a)) 0 3 0 = zM σ a from rfl, z2, e2, if_pos (nI_lt ha (by omega)), if_pos (inb_nI (by omega) (by omega)), ix_nI (by omega), hz a (by omega), let_M (hb a)]
  dsimp only [Option.bind]
  rw [if_pos (inb_nI (by omega) (by omega)), hz a (by omega), dig_M (hb a)]
  dsimp only
  have key : (if nI a ≤ 0 then f_X11_ahead_131 (nI a) (bi (let1 (t a))) (bi (dig1 (t a))) (zM σ a) else if inb (nI a - 1) 1800 = true then (f_X11_isLetter (gI (zM σ a) 1 (ix (nI a - 1))) (zM σ a)).bind fun q24 => if q24.1 = 0 then (if inb (nI a - 1) 1800 = true then (f_X11_isDigit (gI q24.2 1 (ix (nI a - 1))) q24.2).bind fun q25 => if q25.1 = 0 then f_X11_ahead_131 (nI a) (bi (let1 (t a))) (bi (dig1 (t a))) q25.2 else (f_X11_blame 1 (nI a) q25.2).bind fun q35 => f_X11_ahead_131 (nI a) (bi (let1 (t a))) (bi (dig1 (t a))) q35.2 else none) else (f_X11_blame 1 (nI a) q24.2).bind fun q45 => f_X11_ahead_131 (nI a) (bi (let1 (t a))) (bi (dig1 (t a))) q45.2 else none) = f_X11_ahead_131 (nI a) (bi (let1 (t a))) (bi (dig1 (t a))) (if decide (0 < a) && (let1 (t (a - 1)) || dig1 (t (a - 1))) then sI (sI (zM σ a) 0 8 1) 0 9 (nI a) else zM σ a) := by
    by_cases c : a = 0
    · subst c; rw [if_pos (by decide)]; rfl
    · rw [if_neg (nI_nle (by omega) (by omega)), show nI a - 1 = nI (a - 1) from pk_sub (b := 1) (by omega), if_pos (inb_nI (by omega) (by omega)), ix_nI (by omega), hz _ (by omega), let_M (hb _)]
      dsimp only [Option.bind]
      rw [show decide (0 < a) = true from decide_eq_true (by omega), Bool.true_and]
      cases let1 (t (a - 1)) with
      | true => rw [if_neg (show ¬ bi true = 0 by decide), blame_0 (z8.trans e8)]; rfl
      | false =>
        rw [if_pos (show bi false = 0 from rfl), if_pos (inb_nI (by omega) (by omega)), hz _ (by omega), dig_M (hb _)]
        dsimp only
        cases dig1 (t (a - 1)) with
        | true => rw [if_neg (show ¬ bi true = 0 by decide), blame_0 (z8.trans e8)]; rfl
        | false => rw [if_pos (show bi false = 0 from rfl)]; rfl
  have key' := key
  dsimp only [Option.bind] at key'
  cases el : let1 (t a) with
  | true =>
    rw [el] at key'
    rw [if_neg (show ¬ bi true = 0 by decide)]
    exact key'
  | false =>
    rw [el] at key'
    rw [if_pos (show bi false = 0 from rfl)]
    cases ed : dig1 (t a) with
    | true =>
      rw [ed] at key'
      rw [if_neg (show ¬ bi true = 0 by decide)]
      exact key'
    | false =>
      rw [if_pos (show bi false = 0 from rfl)]
      rfl
theorem ah_sg {σ : St} (ht : TpM t σ) (hb : ∀ i, t i < 256) (hn : n ≤ 1600) (e2 : gI σ 0 2 = nI n) {p a : Nat} (e5 : gI σ 0 5 = nI p) (e8 : gI σ 0 8 = 0) (hr : Run bl1 t n p a) (ha : a < n) (hl : let1 (t a) = false) (hd : dig1 (t a) = false) : ∃ m1, f_X11_ahead σ = some ((), m1) ∧ TM σ m1 ∧ gI m1 0 8 = 0 ∧ MK n (t a) a (a + 1) [] 0 m1 := by
  obtain ⟨z2, z3, z4, z5, z8, z9⟩ := zM_3 σ a
  have hz := ht.c (zM_t σ a)
  have hlt := hb a
  let v := sI (sI (sL (sI (zM σ a) 0 6 0) 0 7 0) 0 3 3) 0 5 (nI (a + 1))
  have hv : TM (zM σ a) v := (((TM.s (by decide)).tr TM.l).tr (TM.s (by decide))).tr (TM.s (by decide))
  refine ⟨sI v 0 6 (nI (t a)), ?_, ((zM_t σ a).tr hv).tr (TM.s (by decide)), ?_, ?_, ?_, ?_, ?_, fun e => by omega, fun _ => ge_s, fun e => by omega⟩
  · rw [ah_at ht hb hn e2 e5 e8 hr ha, hl, hd, e_X11_ahead_131]
    dsimp only [ltt]
    rw [if_pos (show bi false = 0 from rfl), if_pos (show bi false = 0 from rfl), if_pos (inb_nI (by omega) (by omega)), ix_nI (by omega), nI_1]
    rw [show gI (sI (sI (sL (sI (if (false || false) && decide (0 < a) && (let1 (t (a - 1)) || dig1 (t (a - 1))) then sI (sI (zM σ a) 0 8 1) 0 9 (nI a) else zM σ a) 0 6 0) 0 7 0) 0 3 3) 0 5 (nI (a + 1))) 1 a = nI (t a) from hz.c hv a (by omega)]
    rfl
  · rw [ge_n (by decide)]
    show gI (sI (sI (sI (zM σ a) 0 6 0) 0 3 3) 0 5 (nI (a + 1))) 0 8 = 0
    rw [ge_n (by decide), ge_n (by decide), ge_n (by decide)]; exact z8.trans e8
  · rw [ge_n (by decide)]
    show gI (sI (sI (sI (zM σ a) 0 6 0) 0 3 3) 0 5 (nI (a + 1))) 0 2 = _
    rw [ge_n (by decide), ge_n (by decide), ge_n (by decide)]; exact z2.trans e2
  · rw [ge_n (by decide), if_neg (by omega), if_pos (by omega)]
    show gI (sI (sI (sI (zM σ a) 0 6 0) 0 3 3) 0 5 (nI (a + 1))) 0 3 = _
    rw [ge_n (by decide), ge_s]; rfl
  · rw [ge_n (by decide)]
    show gI (sI (sI (sI (zM σ a) 0 6 0) 0 3 3) 0 5 (nI (a + 1))) 0 4 = _
    rw [ge_n (by decide), ge_n (by decide), ge_n (by decide)]; exact z4
  · rw [ge_n (by decide)]; exact ge_s
end Lk
