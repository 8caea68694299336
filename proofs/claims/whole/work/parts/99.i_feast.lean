/-! ===== feast ===== -/
section Feast
variable {ld bk : Nat} {L : LD}
theorem K.seed {x m : St} (h : K ld bk L x m) {s : Nat} (hs : s < 2 ^ 31) : K ld bk L (sL x 18 4 (lN s)) (sL m 0 67 (lN s)) := by
  obtain ⟨⟨n, a1, a2, a3, -, a5⟩, s0, b0, l0, w0, d0⟩ := h
  refine ⟨⟨n, a1, a2, a3, ⟨s, hs, by rw [gL_sL, if_pos ⟨rfl, rfl⟩], by rw [gL_sL, if_pos ⟨rfl, rfl⟩]⟩, a5⟩, s0, b0, ?_, w0, d0⟩
  obtain ⟨l1, l2, l3, l4, l5, l6, l7, l8, l9, l10⟩ := l0
  have oze : ∀ l, ozS (sL x 18 4 (lN s)) (ld + 16) 0 l = ozS x (ld + 16) 0 l := by
    intro l
    induction l with
    | nil => rfl
    | cons c l ih => rw [ozS, ozS, ih]; rfl
  refine ⟨l1, l2, l3, l4, l5, fun p hp => ?_, fun t ht => ?_, l8, fun i hi => ?_, l10⟩
  · rw [gL_sL, if_neg (by omega)]; exact l6 p hp
  · rw [gL_sL, if_neg (by omega), oze]; exact l7 t ht
  · rw [gL_sL, if_neg (by omega)]; exact l9 i hi
theorem drawB {x m : St} (h : K ld bk L x m) {c : Nat} (hc : c ≤ 12) : ∃ r s, r ≤ c ∧ s < 2 ^ 31 ∧ f_X1_draw (nI c + 1) x = some (nI r, sL x 18 4 (lN s)) ∧ f_X11_drawn (nI c + 1) m = some (nI r, sL m 0 67 (lN s)) ∧ K ld bk L (sL x 18 4 (lN s)) (sL m 0 67 (lN s)) := by
  obtain ⟨n, -, -, -, ⟨s0, hs0, e1, e2⟩, -⟩ := h.1
  have hs0' : s0 < 2147483648 := hs0
  have step : jlrem ((1103515245 : Int64) * lN s0 + 12345) 2147483648 = lN ((1103515245 * s0 + 12345) % 2147483648) := by
    have hm : (1103515245 : Int64) * lN s0 + 12345 = lN (1103515245 * s0 + 12345) := by
      show Int64.ofNat 1103515245 * Int64.ofNat s0 + Int64.ofNat 12345 = Int64.ofNat (1103515245 * s0 + 12345)
      rw [← Int64.ofNat_mul, ← Int64.ofNat_add]
    rw [hm, jlrem]
    exact pk_lRem (a := 1103515245 * s0 + 12345) (b := 2147483648) (by omega) (by omega) (by omega)
  have hs1 : (1103515245 * s0 + 12345) % 2147483648 < 2147483648 := Nat.mod_lt _ (by omega)
  refine ⟨((1103515245 * s0 + 12345) % 2147483648 / 64) % (c + 1), (1103515245 * s0 + 12345) % 2147483648, ?_, hs1, ?_, ?_, h.seed hs1⟩
  · have := Nat.mod_lt ((1103515245 * s0 + 12345) % 2147483648 / 64) (show 0 < c + 1 by omega)
    omega
  · rw [e_X1_draw, e1, step, nI_1]
    dsimp only [ltt]
    rw [if_pos (show (0 : Int32) < nI (c + 1) from nI_lt (a := 0) (by omega) (by omega)), nI_l (by omega), if_neg (fun q => by
      have := (pk_lEQ (a := c + 1) (b := 0) (by omega) (by omega)).mp q
      omega), gL_sL, if_pos ⟨rfl, rfl⟩, show (64 : Int64) = lN 64 from rfl, pk_lDiv (by omega) (by omega) (by omega), jlrem, pk_lRem (by omega) (by omega) (by omega)]
    rw [lN_i]
  · rw [e_X11_drawn, e2, step, nI_1]
    dsimp only [ltt]
    rw [nI_l (by omega), if_neg (fun q => by
      have := (pk_lEQ (a := c + 1) (b := 0) (by omega) (by omega)).mp q
      omega), gL_sL, if_pos ⟨rfl, rfl⟩, show (64 : Int64) = lN 64 from rfl, pk_lDiv (by omega) (by omega) (by omega), jlrem, pk_lRem (by omega) (by omega) (by omega)]
    rw [lN_i]
theorem lz_c {x x1 : St} (hld : isLand ld) (q1 : ScX x x1) (p t : Nat) : (∀ j, loN x1 j = loN x j) ∧ (Enough x1 L p t ↔ Enough x L p t) ∧ lz x1 ld L p t (L.tn t).length = lz x ld L p t (L.tn t).length ∧ hasT x1 p t = hasT x p t := by
  have l16 := land16 hld
  have lo1 : ∀ j, loN x1 j = loN x j := fun j => by rw [loN, loN, q1.1 8 j rfl]
  have lke : ∀ i k, lk x1 L p t i k = lk x L p t i k := fun i k => by unfold lk; rw [lo1]
  have oz1 : ozN x1 ld = ozN x ld := funext fun k => by rw [ozN, ozN, q1.1 _ _ (by rcases l16 with e | e <;> rw [e] <;> rfl)]
  refine ⟨lo1, ⟨fun e k hk => by rw [← lke, ← lo1]; exact e k hk, fun e k hk => by rw [lke, lo1]; exact e k hk⟩, ?_, by rw [hasT, q1.1 7 p rfl]; rfl⟩
  unfold lz
  rw [oz1, show lk x1 L p t (L.tn t).length = lk x L p t (L.tn t).length from funext fun k => lke _ k]
/-- asked twice, one answer -/
theorem gainE {x m x1 m1 : St} (h : K ld bk L x m) (h1 : K ld bk L x1 m1) (hx : ScX x x1) {p t : Nat} (hp : p < L.np) (ht : t < L.nt) : ∃ v σ σ1, f_X2_gainOunces (nI p) (nI t) x = some (v, σ) ∧ f_X2_gainOunces (nI p) (nI t) x1 = some (v, σ1) := by
  obtain ⟨-, hs, hb, hl, hw, hd⟩ := id h
  obtain ⟨-, hs1, hb1, hl1, hw1, hd1⟩ := id h1
  obtain ⟨p1, p6, hc⟩ := nmT hl ht
  have h8 := hl.1.1
  obtain ⟨lo1, en1, lz1, ha1⟩ := lz_c (L := L) hs.2.1 hx p t
  rw [e_X2_gainOunces, e_X2_gainOunces, lacks_X hs hl hd hp ht, lacks_X hs1 hl1 hd1 hp ht, ha1]
  dsimp only [Option.bind]
  cases hasT x p t
  · rw [if_neg (by decide), if_neg (by decide)]
    dsimp only [ltt]
    rw [hs.1, hs1.1, if_pos (landB_of hs.2.1), if_pos (landB_of hs.2.1), nameT_X hs hl ht, nameT_X hs1 hl1 ht]
    dsimp only
    rw [len_X hc p6, len_X hc p6]
    dsimp only
    rcases gain35_X h hp ht with ⟨en, eX⟩ | ⟨ne, eX⟩
    · rcases gain35_X h1 hp ht with ⟨en', eX'⟩ | ⟨ne', eX'⟩
      · obtain ⟨v, s1, s2, v1, v2⟩ := limE h h1 hp (fun j i hj => by
          refine hx.1 _ _ ?_
          rcases hs.2.1 with w | w <;> subst w <;> simp [xS] <;> omega) (hx.1 6 1 rfl) (hx.1 7 p rfl)
        have e1 : f_X2_gainOunces_35 FU (nI p) (nI t) (nI (pk5 (L.tn t))) (nI (L.tn t).length) 0 0 x = if v < loadS x ld L p + nI (lz x ld L p t (L.tn t).length) then some (-1, s1) else some (nI (lz x ld L p t (L.tn t).length), s1) := by
          rw [eX, load_X hs hl hd (by omega)]
          dsimp only [Option.bind]
          rw [v1]
        have e2 : f_X2_gainOunces_35 FU (nI p) (nI t) (nI (pk5 (L.tn t))) (nI (L.tn t).length) 0 0 x1 = if v < loadS x ld L p + nI (lz x ld L p t (L.tn t).length) then some (-1, s2) else some (nI (lz x ld L p t (L.tn t).length), s2) := by
          rw [eX', load_X hs1 hl1 hd1 (by omega), loadS_c hs hx, lz1]
          dsimp only [Option.bind]
          rw [v2]
        rw [e1, e2]
        by_cases c : v < loadS x ld L p + nI (lz x ld L p t (L.tn t).length)
        · rw [if_pos c, if_pos c]; exact ⟨_, _, _, rfl, rfl⟩
        · rw [if_neg c, if_neg c]; exact ⟨_, _, _, rfl, rfl⟩
      · exact absurd (en1.mpr en) ne'
    · rcases gain35_X h1 hp ht with ⟨en', eX'⟩ | ⟨ne', eX'⟩
      · exact absurd (en1.mp en') ne
      · rw [eX, eX']
        exact ⟨_, _, _, rfl, rfl⟩
  · rw [if_pos (by decide), if_pos (by decide)]
    exact ⟨_, _, _, rfl, rfl⟩
theorem RCon.sc {x x1 : St} (rc : RCon ld L x) (hld : isLand ld) (q : ScX x x1) : RCon ld L x1 :=
  rc.c (fun k => q.1 _ _ rfl) (fun k => q.1 _ _ rfl) (q.1 _ _ rfl) (q.1 _ _ rfl) (fun k => q.1 _ _ rfl) (fun k => q.1 _ _ (by rcases hld with rfl | rfl <;> rfl))
theorem gainableB {p : Nat} (hp : p < L.np) : ∀ d i n n' c (x m : St), K ld bk L x m → RCon ld L x → i + d = L.nt → d < n → d < n' → ∃ c' x' m', f_X1_gainable_4 n (nI p) (nI c) (nI i) x = some (nI c', x') ∧ f_X11_feastOf_4 n' (nI p) (nI c) (nI i) m = ((f_X11_drawn (nI c' + (1 : Int32)) m').bind fun q1 => f_X11_feastOf_51 FU (nI p) q1.1 (0 : Int32) q1.2) ∧ K ld bk L x' m' ∧ RCon ld L x' ∧ c' ≤ c + d := by
  intro d
  induction d with
  | zero =>
    intro i n n' c x m h rc hi hn hn'
    obtain ⟨n, rfl⟩ : ∃ k, n = k + 1 := ⟨n - 1, by omega⟩
    obtain ⟨n', rfl⟩ : ∃ k, n' = k + 1 := ⟨n' - 1, by omega⟩
    obtain ⟨-, hs, hb, hl, hw, hd⟩ := id h
    have h12 := hl.2.1.1
    refine ⟨c, x, m, ?_, ?_, h, rc, by omega⟩
    · rw [e_X1_gainable_4]
      dsimp only [ltt]
      rw [hs.1, if_pos (landB_of hs.2.1), hl.2.1.2.1, if_pos (nI_le (by omega) (by omega))]
    · rw [e_X11_feastOf_4, hb.2, (bk_ix hb.1).1, if_pos rfl, (bk_ix hb.1).2, hl.2.1.2.2, if_pos (nI_le (by omega) (by omega))]
  | succ d ih =>
    intro i n n' c x m h rc hi hn hn'
    obtain ⟨n, rfl⟩ : ∃ k, n = k + 1 := ⟨n - 1, by omega⟩
    obtain ⟨n', rfl⟩ : ∃ k, n' = k + 1 := ⟨n' - 1, by omega⟩
    obtain ⟨-, hs, hb, hl, hw, hd⟩ := id h
    have h12 := hl.2.1.1
    have hit : i < L.nt := by omega
    have p6 := (nmT hl hit).2.1
    have lzb := lz_le hl (p := p) hit (L.tn i).length (Nat.le_refl _)
    obtain ⟨ok, x1, m1, q1, q2, e1, e2, -⟩ := canB h hp hit
    have X := e_X1_gainable_4 n (nI p) (nI c) (nI i) x
    have M := e_X11_feastOf_4 n' (nI p) (nI c) (nI i) m
    dsimp only [ltt] at X M
    rw [hs.1, if_pos (landB_of hs.2.1), hl.2.1.2.1, if_neg (nI_ge hit (by omega)), e1] at X
    rw [hb.2, (bk_ix hb.1).1, if_pos rfl, (bk_ix hb.1).2, hl.2.1.2.2, if_neg (nI_ge hit (by omega)), e2] at M
    dsimp only [Option.bind] at X M
    cases ok
    · rw [if_neg (show ¬ false = true by decide), if_pos rfl, show nI c + 0 = nI c from by rw [show (0 : Int32) = nI 0 from rfl, nI_add, Nat.add_zero], nI_1] at X
      rw [if_pos (by decide), show nI c + 0 = nI c from by rw [show (0 : Int32) = nI 0 from rfl, nI_add, Nat.add_zero], nI_1] at M
      rw [X, M]
      obtain ⟨c', x', m', f1, f2, k1, rc1, b1⟩ := ih (i + 1) n n' c x1 m1 (h.sc q1 q2) (rc.sc hs.2.1 q1) (by omega) (by omega) (by omega)
      exact ⟨c', x', m', f1, f2, k1, rc1, by omega⟩
    · rw [if_pos rfl, if_neg (nI_ne1 (by omega)), nI_1, nI_1] at X
      rw [if_neg (by decide), nI_1, nI_1] at M
      rw [X, M]
      obtain ⟨c', x', m', f1, f2, k1, rc1, b1⟩ := ih (i + 1) n n' (c + 1) x1 m1 (h.sc q1 q2) (rc.sc hs.2.1 q1) (by omega) (by omega) (by omega)
      exact ⟨c', x', m', f1, f2, k1, rc1, by omega⟩
theorem selectB {p r : Nat} (hp : p < L.np) (hr : r ≤ 12) : ∀ d i n n' c (x m : St), K ld bk L x m → RCon ld L x → c < r → i + d = L.nt → d < n → d < n' → ∃ x' m', K ld bk L x' m' ∧ RCon ld L x' ∧ ((∃ t, t < L.nt ∧ hasT x' p t = false ∧ Enough x' L p t ∧ (∃ x'', f_X2_gainOunces (nI p) (nI t) x' = some (nI (lz x' ld L p t (L.tn t).length), x'') ∧ ScX x' x'') ∧ f_X1_gainableAt_5 n (nI p) (nI r) (nI c) (nI i) x = some (nI t, x') ∧ f_X11_feastOf_51 n' (nI p) (nI (r - c)) (nI i) m = ((f_X11_gains (nI p) (nI t) m').bind fun q2 => some ((1 : Int32), q2.2))) ∨ (f_X1_gainableAt_5 n (nI p) (nI r) (nI c) (nI i) x = some (-1, x') ∧ f_X11_feastOf_51 n' (nI p) (nI (r - c)) (nI i) m = some (0, m'))) := by
  intro d
  induction d with
  | zero =>
    intro i n n' c x m h rc hcr hi hn hn'
    obtain ⟨n, rfl⟩ : ∃ k, n = k + 1 := ⟨n - 1, by omega⟩
    obtain ⟨n', rfl⟩ : ∃ k, n' = k + 1 := ⟨n' - 1, by omega⟩
    obtain ⟨-, hs, hb, hl, hw, hd⟩ := id h
    have h12 := hl.2.1.1
    refine ⟨x, m, h, rc, Or.inr ⟨?_, ?_⟩⟩
    · rw [e_X1_gainableAt_5]
      dsimp only [ltt]
      rw [hs.1, if_pos (landB_of hs.2.1), hl.2.1.2.1, if_pos (nI_le (by omega) (by omega))]
    · rw [e_X11_feastOf_51, hb.2, (bk_ix hb.1).1, if_pos rfl, (bk_ix hb.1).2, hl.2.1.2.2, if_pos (nI_le (by omega) (by omega))]
  | succ d ih =>
    intro i n n' c x m h rc hcr hi hn hn'
    obtain ⟨n, rfl⟩ : ∃ k, n = k + 1 := ⟨n - 1, by omega⟩
    obtain ⟨n', rfl⟩ : ∃ k, n' = k + 1 := ⟨n' - 1, by omega⟩
    obtain ⟨-, hs, hb, hl, hw, hd⟩ := id h
    have h12 := hl.2.1.1
    have hit : i < L.nt := by omega
    have p6 := (nmT hl hit).2.1
    have lzb := lz_le hl (p := p) hit (L.tn i).length (Nat.le_refl _)
    obtain ⟨ok, x1, m1, q1, q2, e1, e2, e3⟩ := canB h hp hit
    have k1 := h.sc q1 q2
    have rc1 := rc.sc hs.2.1 q1
    have X := e_X1_gainableAt_5 n (nI p) (nI r) (nI c) (nI i) x
    have M := e_X11_feastOf_51 n' (nI p) (nI (r - c)) (nI i) m
    dsimp only [ltt] at X M
    rw [hs.1, if_pos (landB_of hs.2.1), hl.2.1.2.1, if_neg (nI_ge hit (by omega)), e1] at X
    rw [hb.2, (bk_ix hb.1).1, if_pos rfl, (bk_ix hb.1).2, hl.2.1.2.2, if_neg (nI_ge hit (by omega)), if_neg (nI_nle (by omega) (by omega)), e2] at M
    dsimp only [Option.bind] at X M
    cases ok
    · rw [if_neg (show ¬ false = true by decide), if_pos rfl, show nI c + 0 = nI c from by rw [show (0 : Int32) = nI 0 from rfl, nI_add, Nat.add_zero], if_neg (fun q => by have := (nI_eq (by omega) (by omega)).mp q; omega), nI_1] at X
      rw [if_pos (by decide), nI_1] at M
      rw [X, M]
      exact ih (i + 1) n n' c x1 m1 k1 rc1 hcr (by omega) (by omega) (by omega)
    · rw [if_pos rfl, if_neg (nI_ne1 (by omega)), nI_1, nI_1] at X
      obtain ⟨w, hw⟩ : ∃ w, r - c = w + 1 := ⟨r - c - 1, by omega⟩
      rw [if_neg (by decide), hw, pk_m1, nI_1] at M
      by_cases cc : c + 1 = r
      · rw [if_pos (by rw [cc])] at X
        rw [if_pos (show nI w ≤ 0 by rw [show w = 0 by omega]; decide)] at M
        obtain ⟨hh, en⟩ := e3 rfl
        obtain ⟨lo1, en1, lz1, ha1⟩ := lz_c (L := L) hs.2.1 q1 p i
        obtain ⟨v, s1, s2, v1, v2⟩ := gainE h k1 q1 hp hit
        obtain ⟨ok2, x3, m3, q3, q4, g1, g2, g3⟩ := canB k1 hp hit
        rw [e1] at v1
        have va : v = nI (lz x ld L p i (L.tn i).length) := by
          have := congrArg (fun o => o.map Prod.fst) v1
          simp only [Option.map_some, Option.some.injEq] at this
          exact this.symm
        refine ⟨x1, m1, k1, rc1, Or.inl ⟨i, hit, by rw [ha1]; exact hh, en1.mpr en, ⟨x3, ?_, q3⟩, X, by rw [hw]; exact M⟩⟩
        rw [g1] at v2 ⊢
        have vb : (if ok2 = true then nI (lz x1 ld L p i (L.tn i).length) else -1) = v := by
          have := congrArg (fun o => o.map Prod.fst) v2
          simp only [Option.map_some, Option.some.injEq] at this
          exact this
        rw [vb, va, lz1]
      · rw [if_neg (fun q => cc ((nI_eq (by omega) (by omega)).mp q))] at X
        rw [if_neg (nI_nle (by omega) (by omega))] at M
        rw [X, hw, M, show w = r - (c + 1) by omega]
        exact ih (i + 1) n n' (c + 1) x1 m1 k1 rc1 (by omega) (by omega) (by omega) (by omega)
end Feast
