/-! ===== one word at a time, in both ===== -/
def Rs (t : Nat → Nat) (n p : Nat) (b : Bool) (x m x' m' : St) : Prop := TX x x' ∧ TM m m' ∧ (¬ gI m 0 8 = 0 → b = false ∧ m' = m) ∧ ((b = true ∧ ∃ p', p < p' ∧ NX t n p' x' m') ∨ (b = false ∧ Bd x' m'))
theorem owl_2 : ∀ i, i < 23 → 2 ≤ (owl i).length := by decide +kernel
section Tk
variable {t : Nat → Nat} {n p : Nat} {x m : St}
theorem TS.le {c a e v : Nat} {l : List Nat} (h : TS t n p c a e l v x m) : gI m 0 8 ≤ 0 := by rw [h.2.2.2.2.1]; decide
theorem nI_303 {k : Nat} (hk : k < 500) (h : k ≠ 303) : ¬ (303 : Int32) = nI k := fun e => h ((nI_eq (a := 303) (by omega) (by omega)).mp e).symm
theorem nI_ne {c k : Nat} (hc : c < 500) (hk : k < 500) (h : c ≠ k) : ¬ nI c = nI k := fun e => h ((nI_eq (by omega) (by omega)).mp e)
theorem zok_0 : zok 0 = true := rfl
theorem tokW (h : NX t n p x m) {i : Nat} (hi : i < 23) : ∃ b x' m', f_X5_token (nI (400 + i)) x = some (bi b, x') ∧ f_X11_must_ (wl i) m = some ((), m') ∧ gI x' 5 2 = gI x 5 2 ∧ Rs t n p b x m x' m' := by
  rcases h.lk with ⟨x1, e1, e2, e3, e4⟩ | ⟨c, a, e, l, v, x1, e1, e2, e3, hT⟩
  · refine ⟨false, x1, m, ?_, ?_, e3, e2, TM.rf _, fun _ => ⟨rfl, rfl⟩, .inr ⟨rfl, e4⟩⟩
    · rw [e_X5_token, e1]; dsimp only [Option.bind]; rw [if_neg (nI_303 (by omega) (by omega)), e4.here]; rfl
    · rw [e_X11_must_, if_neg e4.f.2.1]
  · have hcl := hT.cl
    by_cases hc : c = 400 + i
    · obtain ⟨m', a1, a2, a3, a4, a5, a6, a7⟩ := hT.adv (by omega)
      refine ⟨true, sI x1 3 7 0, m', ?_, ?_, a4.trans e3, e2.tr a3, a5, fun q => absurd hT.2.2.2.2.1 q, .inl ⟨rfl, e, a6, a7⟩⟩
      · rw [e_X5_token, e1]; dsimp only [Option.bind]; rw [if_pos (by rw [hc]), a1]; rfl
      · rw [e_X11_must_, if_pos hT.le, hT.word hi, decide_eq_true hc]
        dsimp only [Option.bind]
        rw [if_neg (by decide), if_pos hT.2.2.2.2.1, a2]
    · obtain ⟨x2, m', a1, a2, a3, a4, a5, a6, -⟩ := hT.fail (k := 1) (by decide)
      refine ⟨false, x2, m', ?_, ?_, a5.trans e3, e2.tr a3, a4, fun q => absurd hT.2.2.2.2.1 q, .inr ⟨rfl, a6⟩⟩
      · rw [e_X5_token, e1]; dsimp only [Option.bind]; rw [if_neg (nI_ne hcl (by omega) hc), show (1 : Int32) = nI 1 from rfl, a1]; rfl
      · rw [e_X11_must_, if_pos hT.le, hT.word hi, decide_eq_false hc]
        dsimp only [Option.bind]
        rw [if_pos (show bi false = 0 from rfl), show (1 : Int32) = nI 1 from rfl, a2]
        dsimp only
        rw [if_neg a6.f.1]
theorem tokS (h : NX t n p x m) {k : Nat} (hk : k < 256) : ∃ b x' m', f_X5_token (nI k) x = some (bi b, x') ∧ (if gI m 0 8 = 0 then f_X11_must (nI k) m else some ((), m)) = some ((), m') ∧ gI x' 5 2 = gI x 5 2 ∧ Rs t n p b x m x' m' := by
  rcases h.lk with ⟨x1, e1, e2, e3, e4⟩ | ⟨c, a, e, l, v, x1, e1, e2, e3, hT⟩
  · refine ⟨false, x1, m, ?_, ?_, e3, e2, TM.rf _, fun _ => ⟨rfl, rfl⟩, .inr ⟨rfl, e4⟩⟩
    · rw [e_X5_token, e1]; dsimp only [Option.bind]; rw [if_neg (nI_303 (by omega) (by omega)), e4.here]; rfl
    · rw [if_neg e4.f.1]
  · have hcl := hT.cl
    rw [if_pos hT.2.2.2.2.1]
    by_cases hc : c = k
    · obtain ⟨m', a1, a2, a3, a4, a5, a6, a7⟩ := hT.adv (by omega)
      refine ⟨true, sI x1 3 7 0, m', ?_, ?_, a4.trans e3, e2.tr a3, a5, fun q => absurd hT.2.2.2.2.1 q, .inl ⟨rfl, e, a6, a7⟩⟩
      · rw [e_X5_token, e1]; dsimp only [Option.bind]; rw [if_pos (by rw [hc]), a1]; rfl
      · rw [e_X11_must, hT.sign hk, decide_eq_true hc]
        dsimp only [Option.bind]
        rw [if_neg (by decide), if_pos hT.2.2.2.2.1, a2]
    · obtain ⟨x2, m', a1, a2, a3, a4, a5, a6, -⟩ := hT.fail (k := 1) (by decide)
      refine ⟨false, x2, m', ?_, ?_, a5.trans e3, e2.tr a3, a4, fun q => absurd hT.2.2.2.2.1 q, .inr ⟨rfl, a6⟩⟩
      · rw [e_X5_token, e1]; dsimp only [Option.bind]; rw [if_neg (nI_ne hcl (by omega) hc), show (1 : Int32) = nI 1 from rfl, a1]; rfl
      · rw [e_X11_must, hT.sign hk, decide_eq_false hc]
        dsimp only [Option.bind]
        rw [if_pos (show bi false = 0 from rfl), show (1 : Int32) = nI 1 from rfl, a2]
        dsimp only
        rw [if_neg a6.f.1]
theorem numB (h : NX t n p x m) {lo hi : Nat} (hlo : lo < 100000) (hhi : hi < 100000) : ∃ b x' m' w, f_X5_number (nI lo) (nI hi) x = some (bi b, x') ∧ f_X11_number (nI lo) (nI hi) m = some (w, m') ∧ Rs t n p b x m x' m' ∧ (b = true → ∃ v, lo ≤ v ∧ v ≤ hi ∧ gI x' 5 2 = nI v ∧ w = nI v) := by
  rcases h.lk with ⟨x1, e1, e2, e3, e4⟩ | ⟨c, a, e, l, v, x1, e1, e2, e3, hT⟩
  · refine ⟨false, x1, m, 0, ?_, ?_, ⟨e2, TM.rf _, fun _ => ⟨rfl, rfl⟩, .inr ⟨rfl, e4⟩⟩, fun q => by cases q⟩
    · rw [e_X5_number, e1]; dsimp only [Option.bind]; rw [if_neg (by decide), e4.here]; rfl
    · rw [e_X11_number, if_neg e4.f.2.1]
  · have hcl := hT.cl
    have m3 := hT.2.2.2.2.2.2.1
    have h0 := hT.2.2.2.2.1
    by_cases hc : c = 301
    · subst hc
      have hv : v ≤ 9999 := by rcases hT.2.2.1.cd hT.1.1 with q | q | q | q <;> omega
      have v6 := hT.2.2.2.1.2.2.2.2.1 rfl
      have w6 := hT.2.2.2.2.2.2.2.2.2.1 rfl
      have X := e_X5_number (nI lo) (nI hi) x
      have M := e_X11_number (nI lo) (nI hi) m
      rw [e1] at X
      dsimp only [Option.bind] at X
      rw [if_pos (show nI 301 = 301 from rfl), v6] at X
      rw [if_pos hT.le, if_pos (by rw [m3]; rfl), if_pos h0, e_X11_is, w6] at M
      by_cases hin : lo ≤ v ∧ v ≤ hi
      · obtain ⟨m', a1, a2, a3, a4, a5, a6, a7⟩ := (hT.c (x' := sI x1 5 2 (nI v)) (m' := m) (S3.s (by decide)) (S0.rf _)).adv (by omega)
        rw [if_neg (nI_nlt hin.1 (by omega)), if_pos (nI_le hin.2 (by omega))] at X
        rw [if_neg (nI_nlt hin.1 (by omega)), if_neg (nI_nlt hin.2 (by omega))] at M
        dsimp only [Option.bind, ltt] at X M
        rw [a1] at X
        rw [if_neg (show ¬ (1 : Int32) = 0 by decide), w6, if_pos h0, a2] at M
        exact ⟨true, _, m', nI v, X, M, ⟨(e2.tr TX.s5).tr a3, a5, fun q => absurd h0 q, .inl ⟨rfl, e, a6, a7⟩⟩, fun _ => ⟨v, hin.1, hin.2, a4.trans ge_s, rfl⟩⟩
      · obtain ⟨x2, m', a1, a2, a3, a4, a5, a6, b3, b6, -⟩ := hT.fail (k := 4) (by decide)
        have X' : f_X5_number (nI lo) (nI hi) x = some (0, x2) := by
          rw [X, show (4 : Int32) = nI 4 from rfl, a1]
          by_cases q : v < lo
          · rw [if_pos (nI_lt q (by omega))]; rfl
          · rw [if_neg (nI_nlt (by omega) (by omega)), if_neg (nI_ge (by omega) (by omega))]; rfl
        have M' : f_X11_number (nI lo) (nI hi) m = some (nI v, m') := by
          rw [M, show (4 : Int32) = nI 4 from rfl]
          have e' : (if nI v < nI lo then some ((0 : Int32), m) else if nI hi < nI v then some ((0 : Int32), m) else some ((1 : Int32), m)) = some (0, m) := by
            by_cases q : v < lo
            · rw [if_pos (nI_lt q (by omega))]
            · rw [if_neg (nI_nlt (by omega) (by omega)), if_pos (nI_lt (by omega) (by omega))]
          rw [e']
          dsimp only [Option.bind]
          rw [if_pos rfl, a2]
          dsimp only [ltt]
          rw [if_neg a6.f.1, b6, w6]
        exact ⟨false, x2, m', nI v, X', M', ⟨e2.tr a3, a4, fun q => absurd h0 q, .inr ⟨rfl, a6⟩⟩, fun q => by cases q⟩
    · obtain ⟨x2, m', a1, a2, a3, a4, a5, a6, b3, b6, -⟩ := hT.fail (k := 1) (by decide)
      refine ⟨false, x2, m', gI m 0 6, ?_, ?_, ⟨e2.tr a3, a4, fun q => absurd h0 q, .inr ⟨rfl, a6⟩⟩, fun q => by cases q⟩
      · rw [e_X5_number, e1]; dsimp only [Option.bind]; rw [if_neg (show ¬ nI c = (301 : Int32) from nI_ne (k := 301) hcl (by omega) hc), show (1 : Int32) = nI 1 from rfl, a1]; rfl
      · rw [e_X11_number, if_pos hT.le, if_neg, show (1 : Int32) = nI 1 from rfl, a2]
        · dsimp only [Option.bind, ltt]
          rw [if_neg a6.f.1, if_neg a6.f.1, b6]
        · rw [m3]
          rcases hT.2.2.1.cd hT.1.1 with q | q | q | q
          · rw [if_pos q]; decide
          · rw [if_neg (by omega), if_pos q]; decide
          · omega
          · rw [if_neg (by omega), if_neg (by omega), if_neg hc]; decide
/-- the word that begins a statement is taken -/
theorem cntB {c a e v : Nat} {l : List Nat} (hT : TS t n p c a e l v x m) (hc : c ≠ 302) : ∃ m', f_X6_skip x = some ((), sI x 3 7 0) ∧ f_X11_counts 0 m = some (bi (decide (gI m' 0 8 = 0)), m') ∧ TX x (sI x 3 7 0) ∧ TM m m' ∧ ∃ p', p < p' ∧ NX t n p' (sI x 3 7 0) m' := by
  obtain ⟨m', a1, a2, a3, a4, a5, a6, a7⟩ := hT.adv hc
  have h0 := hT.2.2.2.2.1
  refine ⟨m', a1, ?_, a3, a5, e, a6, a7⟩
  rw [e_X11_counts, if_pos h0, if_pos rfl, if_pos h0, a2]
  dsimp only [Option.bind]
  by_cases q : gI m' 0 8 = 0
  · rw [if_pos q, decide_eq_true q]; rfl
  · rw [if_neg q, decide_eq_false q]; rfl
theorem fullB {c a e v : Nat} {l : List Nat} (hT : TS t n p c a e l v x m) : ∃ x' m', f_X6_failHere 5 x = some (0, x') ∧ f_X11_counts 1 m = some (0, m') ∧ TX x x' ∧ TM m m' ∧ Bd x' m' := by
  obtain ⟨x2, m', a1, a2, a3, a4, a5, a6, -⟩ := hT.fail (k := 5) (by decide)
  have h0 := hT.2.2.2.2.1
  refine ⟨x2, m', a1, ?_, a3, a4, a6⟩
  rw [e_X11_counts, if_pos h0, if_neg (by decide), show (5 : Int32) = nI 5 from rfl, a2]
  dsimp only [Option.bind]
  rw [if_neg a6.f.1, if_neg a6.f.1]
/-- a letter alone -/
theorem letB (h : NX t n p x m) : ∃ b x' m' w, f_X5_oneLetter x = some (bi b, x') ∧ f_X11_oneLetter m = some (w, m') ∧ Rs t n p b x m x' m' ∧ (b = true → ∃ v, v < 26 ∧ gI x' 5 2 = nI v ∧ w = nI v) := by
  rcases h.lk with ⟨x1, e1, e2, e3, e4⟩ | ⟨c, a, e, l, v, x1, e1, e2, e3, hT⟩
  · refine ⟨false, x1, m, 0, ?_, ?_, ⟨e2, TM.rf _, fun _ => ⟨rfl, rfl⟩, .inr ⟨rfl, e4⟩⟩, fun q => by cases q⟩
    · rw [e_X5_oneLetter, e1]; dsimp only [Option.bind]; rw [if_neg (by decide), e4.here]; rfl
    · rw [e_X11_oneLetter, if_neg e4.f.2.1]
  have hcl := hT.cl
  have m3 := hT.2.2.2.2.2.2.1
  have h0 := hT.2.2.2.2.1
  have hcd := hT.2.2.1.cd hT.1.1
  obtain ⟨x2, m', a1, a2, a3, a4, a5, a6, b3, b6, b7⟩ := hT.fail (k := 1) (by decide)
  have badM : ¬ (gI m 0 3 = 1 ∧ lg_cmp (gL m 0 7) 255 ≤ 0) → f_X11_oneLetter m = some (0, m') := by
    intro q
    rw [e_X11_oneLetter, if_pos hT.le]
    by_cases q1 : gI m 0 3 = 1
    · rw [if_pos q1, if_neg (fun q2 => q ⟨q1, q2⟩), show (1 : Int32) = nI 1 from rfl, a2]
      dsimp only [Option.bind, ltt]
      rw [if_neg a6.f.2.1, if_neg a6.f.1]
    · rw [if_neg q1, show (1 : Int32) = nI 1 from rfl, a2]
      dsimp only [Option.bind, ltt]
      rw [if_neg a6.f.2.1, if_neg a6.f.1]
  have bad : f_X5_oneLetter x = some (0, x2) → ¬ (gI m 0 3 = 1 ∧ lg_cmp (gL m 0 7) 255 ≤ 0) → ∃ b x' m' w, f_X5_oneLetter x = some (bi b, x') ∧ f_X11_oneLetter m = some (w, m') ∧ Rs t n p b x m x' m' ∧ (b = true → ∃ v, v < 26 ∧ gI x' 5 2 = nI v ∧ w = nI v) := fun q1 q2 => ⟨false, x2, m', 0, q1, badM q2, ⟨e2.tr a3, a4, fun q => absurd h0 q, .inr ⟨rfl, a6⟩⟩, fun q => by cases q⟩
  have big : (c = 300 ∨ 400 ≤ c) → 2 ≤ l.length → ¬ lg_cmp (gL m 0 7) 255 ≤ 0 := by
    intro q1 q2
    have hL := hT.2.2.2.2.2.2.2.2.2.2.2 q1
    have hl : ∀ d ∈ l, d < 26 ∧ l.length ≤ 6 := by rcases hcd with q | q | q | q; omega; omega; omega; exact fun d hd => ⟨q.2.2.2.2.1 d hd, q.2.2.2.1⟩
    have h6 : l.length ≤ 6 := by rcases hcd with q | q | q | q; omega; omega; omega; exact q.2.2.2.1
    rw [hL, cmp_le, pk_lT (Nat.lt_trans (pk8_48 (fun d hd => (hl d hd).1) h6) (by decide))]
    have h256 : 256 ≤ pk8 l := by
      match l, q2 with
      | d :: d' :: r, _ =>
        have mono : ∀ (r : List Nat) (w : Nat), 256 ≤ w → 256 ≤ r.foldl (fun w c => 256 * w + (c + 97)) w := by
          intro r
          induction r with
          | nil => intro w h; exact h
          | cons z r ih => intro w h; exact ih _ (show 256 ≤ 256 * w + (z + 97) by omega)
        exact mono r _ (show 256 ≤ 256 * (256 * 0 + (d + 97)) + (d' + 97) by omega)
    show ¬ ((pk8 l : Int) ≤ 255)
    omega
  by_cases hc : c = 300
  · subst hc
    have hl := hT.2.2.2.1.2.2.2.2.2.1 (.inl rfl)
    have hL := hT.2.2.2.2.2.2.2.2.2.2.2 (.inl rfl)
    obtain ⟨-, -, q2, q3, q4, -⟩ : (300 = 300 ∨ (400 ≤ 300 ∧ 300 < 423)) ∧ 300 = own l ∧ 1 ≤ l.length ∧ l.length ≤ 6 ∧ (∀ d ∈ l, d < 26) ∧ e = a + l.length ∧ let1 (t a) = true ∧ let1 (t (e - 1)) = true := by
      rcases hcd with q | q | q | q; omega; omega; omega; exact q
    have X := e_X5_oneLetter x
    rw [e1] at X
    dsimp only [Option.bind] at X
    rw [if_pos (show nI 300 = 300 from rfl), hl, letter_X q4 q3, if_pos (show inb (0 : Int32) l.length = true from inb_nI (i := 0) (by omega) (by omega)), show ix (0 : Int32) = 0 from rfl] at X
    dsimp only at X
    rw [hl, len_X q4 q3] at X
    dsimp only at X
    by_cases h1 : l.length = 1
    · have hd : ∃ d, l = [d] := by
        match l, h1 with
        | [d], _ => exact ⟨d, rfl⟩
      obtain ⟨d, rfl⟩ := hd
      have hd := q4 d (List.mem_singleton.mpr rfl)
      obtain ⟨m1, b1, b2, b3, b4, b5, b6, b7⟩ := (hT.c (x' := sI x1 5 2 (nI d)) (m' := m) (S3.s (by decide)) (S0.rf _)).adv (by omega)
      rw [if_pos (show nI [d].length = 1 from rfl), show [d].getD 0 0 = d from rfl, if_neg (nI_pos (by omega)), if_pos (show nI d < (26 : Int32) from nI_lt (b := 26) hd (by omega))] at X
      dsimp only [ltt] at X
      rw [b1] at X
      dsimp only at X
      have hp8 : pk8 [d] = d + 97 := by show 256 * 0 + (d + 97) = _; omega
      have M := e_X11_oneLetter m
      rw [if_pos hT.le, if_pos (by rw [m3]; rfl), hL, hp8, if_pos (by rw [cmp_le, pk_lT (by omega)]; show ((d + 97 : Nat) : Int) ≤ 255; omega), if_pos hT.le] at M
      dsimp only [ltt] at M
      rw [if_pos h0, b2, lN_i, show (97 : Int32) = nI 97 from rfl, pk_sub (by omega), show d + 97 - 97 = d by omega] at M
      exact ⟨true, _, m1, nI d, X, M, ⟨(e2.tr TX.s5).tr b3, b5, fun q => absurd h0 q, .inl ⟨rfl, e, b6, b7⟩⟩, fun _ => ⟨d, hd, b4.trans ge_s, rfl⟩⟩
    · rw [if_neg (show ¬ nI l.length = (1 : Int32) from fun q => h1 ((nI_eq (b := 1) (by omega) (by omega)).mp q)), show (1 : Int32) = nI 1 from rfl, a1] at X
      exact bad X (fun q => big (.inl rfl) (by omega) q.2)
  · have X : f_X5_oneLetter x = some (0, x2) := by
      rw [e_X5_oneLetter, e1]; dsimp only [Option.bind]; rw [if_neg (show ¬ nI c = (300 : Int32) from nI_ne (k := 300) hcl (by omega) hc), show (1 : Int32) = nI 1 from rfl, a1]; rfl
    refine bad X (fun q => ?_)
    have hw : 400 ≤ c := by
      have q1 := q.1
      rw [m3] at q1
      rcases hcd with z | z | z | z
      · rw [if_pos z] at q1; exact absurd q1 (by decide)
      · rw [if_neg (by omega), if_pos z] at q1; exact absurd q1 (by decide)
      · rw [if_neg (by omega), if_neg (by omega), if_pos z.1] at q1; exact absurd q1 (by decide)
      · omega
    refine big (.inr hw) ?_ q.2
    have hco : c = own l := by rcases hcd with z | z | z | z; omega; omega; omega; exact z.2.1
    rcases own_cs l with ⟨i, hi, hli, -⟩ | ⟨-, hli⟩
    · rw [hli]; exact owl_2 i hi
    · omega
end Tk
