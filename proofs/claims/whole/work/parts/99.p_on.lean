/-! ===== does the row of numbers fit, there ===== -/
section FitsM
variable {ld bk : Nat} {L : LD} {x m : St} {n0 : Nat}
theorem w255 (h : K ld bk L x m) (h0 : RelA n0 x m) (KM : Int32 → Int32 → Int64 → Int64 → Int32 → St → Option (Int32 × St)) {c : Nat} (hc : c < 2 ^ 31) (u v : Int32) (y : Int64) (Z : Nat) (p : Int32) : f_X11_isWhole_255 KM FU u v y (lN Z) p (nI c) 0 m = KM u v y (lN (Z + bsum (lnN L) L.nt c)) (p + 1) m := by
  have hb := h.2.2.1
  have hl := h.2.2.2.1
  have h12 := hl.2.1.1
  obtain ⟨z, ez, e⟩ := loop_exF (fun n (z : Int64) i => f_X11_isWhole_255 KM n u v y z p (nI c) (nI i) m) (fun z => KM u v y z (p + 1) m) L.nt (by omega) (fun i z => z = lN (Z + bsum (lnN L) i c)) (fun n z hz => by
    rw [e_X11_isWhole_255, hb.2, (bk_ix hb.1).1, if_pos rfl, (bk_ix hb.1).2, hl.2.1.2.2, if_pos (nI_le (Nat.le_refl _) (by omega))]) (fun n z i hi hz => by
    refine ⟨_, ?_, rfl⟩
    have p6 := (nmT hl hi).2.1
    rw [e_X11_isWhole_255, hb.2, (bk_ix hb.1).1, if_pos rfl, (bk_ix hb.1).2, hl.2.1.2.2, if_neg (nI_ge hi (by omega)), bit_I hc (by omega), nI_1, hz, bsum]
    cases c.testBit i
    · rw [if_neg (by decide), if_neg (by decide), show (0 : Int64) = lN 0 from rfl]
      dsimp only [ltt]
      rw [lN_add, Nat.add_assoc]
    · rw [if_pos (by decide), if_pos rfl, lenT_M hb hl hi]
      dsimp only [Option.bind, ltt]
      rw [nI_l (by omega), lN_add, Nat.add_assoc]
      rfl) (lN Z) rfl
  refine Eq.trans e ?_
  rw [ez]
theorem whole_M (h : K ld bk L x m) (h0 : RelA n0 x m) {n : Nat} (hn : n ≤ 1600) : ∃ b : Bool, (b = true ↔ OkT x ld L n) ∧ f_X11_isWhole (nI n) m = some (bi b, m) := by
  obtain ⟨-, hs, hb, hl, hw, hd⟩ := id h
  have h8 := hl.1.1
  have h12 := hl.2.1.1
  have hnt : 2 ^ L.nt ≤ 2 ^ 12 := Nat.pow_le_pow_right (by omega) h12
  have hnt0 : 0 < 2 ^ L.nt := Nat.two_pow_pos _
  have hH : hS L = 2 + 54 * L.np := rfl
  have no : ∀ P : Prop, ¬ P → (OkT x ld L n → P) → ((false = true) ↔ OkT x ld L n) := fun P hP hi => ⟨fun q => (by cases q), fun q => absurd (hi q) hP⟩
  have tbb := tb_e h0 (i := hS L + 55) (by omega)
  have t0 := tw2_le h0 (i := 0) (by omega)
  rw [e_X11_isWhole, hb.2, (bk_ix hb.1).1, if_pos rfl, (bk_ix hb.1).2, hl.1.2.2, show (54 : Int32) = nI 54 from rfl, show (2 : Int32) = nI 2 from rfl, pk_mul, nI_add, show (57 : Int32) = nI 57 from rfl, show (55 : Int32) = nI 55 from rfl]
  dsimp only [ltt]
  rw [show 2 + 54 * L.np = hS L from rfl, nI_add, nI_add]
  by_cases p1 : hS L + 57 ≤ n
  · rw [if_neg (nI_nlt p1 (by omega))]
    have tm : f_X11_two 0 m = some (nI (tw2 x 0), m) := two_M h0 (fun _ => rfl) (a := 0) (by omega)
    rw [tm]
    dsimp only [Option.bind]
    by_cases p5 : tw2 x 0 ≤ 999
    · rw [if_pos (show nI (tw2 x 0) ≤ (999 : Int32) from nI_le (b := 999) p5 (by omega)), if_pos (inb_nI (by omega) (by omega)), ix_nI (by omega), tbb.2.1]
      by_cases p2 : tb x (hS L + 55) ≤ 30
      · rw [if_neg (show ¬ (30 : Int32) < nI (tb x (hS L + 55)) from nI_nlt (a := 30) p2 (by omega)), pk_mul, nI_add]
        by_cases p3 : n = hS L + 57 + 2 * tb x (hS L + 55)
        · rw [if_pos (show nI n = nI (hS L + 57 + 2 * tb x (hS L + 55)) by rw [← p3])]
          obtain ⟨s1, s2, s3, s4⟩ := sums_le h h0 p2
          have oz : ∀ k, k < 26 → ozN x ld k ≤ 99 := fun k hk => (oz_e hl hk).2.2
          -- the bullets, and the end
          have l311 : (∀ p, p < L.np → tw2 x (2 + 54 * p) < 2 ^ L.nt) → SL x (n - 1) = nI (tb x (n - 1)) → ∀ d i f, i + d = tb x (hS L + 55) → d < f → (∀ q, q < i → 1 ≤ bS x L q) → ∃ b : Bool, (b = true ↔ OkT x ld L n) ∧ f_X11_isWhole_311 f (nI (hS L)) (nI (tb x (hS L + 55))) (lN (rS x (ozN x ld) (hS L) + rivT x L + btot (pL x ld L) L.np + btot (bS x L) i)) (lN (rS x (fun _ => 1) (hS L) + btot (pT x L) L.np)) (nI i) m = some (bi b, m) := by
            intro p6 p4 d
            induction d with
            | zero =>
              intro i f hi hf hok
              obtain ⟨f, rfl⟩ : ∃ k, f = k + 1 := ⟨f - 1, by omega⟩
              have : i = tb x (hS L + 55) := by omega
              have eL : rS x (ozN x ld) (hS L) + rivT x L + btot (pL x ld L) L.np + btot (bS x L) i = LEAD x ld L (tb x (hS L + 55)) := by rw [this]; unfold LEAD; omega
              have eT : rS x (fun _ => 1) (hS L) + btot (pT x L) L.np = LETT x L := by unfold LETT; omega
              rw [e_X11_isWhole_311, if_pos (nI_le (by omega) (by omega)), eL, eT]
              show ∃ b : Bool, (b = true ↔ OkT x ld L n) ∧ (if 0 < lg_cmp (lN (LEAD x ld L (tb x (hS L + 55)))) (lN 9999999) then some (0, m) else if 0 < lg_cmp (lN (LETT x L)) (lN 9999) then some (0, m) else some (1, m)) = some (bi b, m)
              by_cases c1 : LEAD x ld L (tb x (hS L + 55)) ≤ 9999999
              · rw [if_neg (fun q => by rw [cmpN (by omega) (by omega)] at q; omega)]
                by_cases c2 : LETT x L ≤ 9999
                · rw [if_neg (fun q => by rw [cmpN (by omega) (by omega)] at q; omega)]
                  exact ⟨true, ⟨fun _ => ⟨p1, p2, p3, p4, p5, p6, fun q hq => hok q (by omega), c1, c2⟩, fun _ => rfl⟩, rfl⟩
                · rw [if_pos (by rw [cmpN (by omega) (by omega)]; omega)]
                  exact ⟨false, no _ c2 (fun o => o.2.2.2.2.2.2.2.2), rfl⟩
              · rw [if_pos (by rw [cmpN (by omega) (by omega)]; omega)]
                exact ⟨false, no _ c1 (fun o => o.2.2.2.2.2.2.2.1), rfl⟩
            | succ d ih =>
              intro i f hi hf hok
              obtain ⟨f, rfl⟩ : ∃ k, f = k + 1 := ⟨f - 1, by omega⟩
              have tl := tw2_le h0 (i := hS L + 56 + 2 * i) (by omega)
              rw [e_X11_isWhole_311, if_neg (nI_ge (by omega) (by omega)), show (56 : Int32) = nI 56 from rfl, show (2 : Int32) = nI 2 from rfl, pk_mul, nI_add, nI_add, two_M h0 (fun _ => rfl) (by omega)]
              dsimp only [Option.bind]
              by_cases c : 1 ≤ tw2 x (hS L + 56 + 2 * i)
              · rw [if_pos (show (1 : Int32) ≤ nI (tw2 x (hS L + 56 + 2 * i)) from nI_le (a := 1) c (by omega)), two_M h0 (fun _ => rfl) (by omega)]
                dsimp only [ltt]
                rw [nI_l (by omega), lN_add, nI_1]
                have := ih (i + 1) f (by omega) (by omega) (fun q hq => by
                  by_cases e : q = i
                  · rw [e]; exact c
                  · exact hok q (by omega))
                rw [btot, ← Nat.add_assoc] at this
                exact this
              · rw [if_neg (show ¬ (1 : Int32) ≤ nI (tw2 x (hS L + 56 + 2 * i)) from nI_ge (b := 1) (by omega) (by omega))]
                exact ⟨false, no _ c (fun o => o.2.2.2.2.2.2.1 i (by omega)), rfl⟩
          have l164 : SL x (n - 1) = nI (tb x (n - 1)) → ∀ d p f, p + d = L.np → d < f → (∀ q, q < p → tw2 x (2 + 54 * q) < 2 ^ L.nt) → ∃ b : Bool, (b = true ↔ OkT x ld L n) ∧ f_X11_isWhole_164 f (nI (hS L)) (nI (tb x (hS L + 55))) (lN (rS x (ozN x ld) (hS L) + rivT x L + btot (pL x ld L) p)) (lN (rS x (fun _ => 1) (hS L) + btot (pT x L) p)) (nI p) m = some (bi b, m) := by
            intro p4 d
            induction d with
            | zero =>
              intro p f hp hf hok
              obtain ⟨f, rfl⟩ : ∃ k, f = k + 1 := ⟨f - 1, by omega⟩
              have : p = L.np := by omega
              subst this
              rw [e_X11_isWhole_164, hb.2, (bk_ix hb.1).1, if_pos rfl, (bk_ix hb.1).2, hl.1.2.2, if_pos (nI_le (by omega) (by omega))]
              have := l311 hok p4 (tb x (hS L + 55)) 0 FU (by omega) (by rw [FU_eq]; omega) (fun q hq => by omega)
              rw [btot, Nat.add_zero] at this
              exact this
            | succ d ih =>
              intro p f hp hf hok
              obtain ⟨f, rfl⟩ : ∃ k, f = k + 1 := ⟨f - 1, by omega⟩
              have tl := tw2_le h0 (i := 2 + 54 * p) (by omega)
              rw [e_X11_isWhole_164, hb.2, (bk_ix hb.1).1, if_pos rfl, (bk_ix hb.1).2, hl.1.2.2, if_neg (nI_ge (by omega) (by omega)), show (54 : Int32) = nI 54 from rfl, show (2 : Int32) = nI 2 from rfl, show (4 : Int32) = nI 4 from rfl, pk_mul, nI_add, nI_add, two_M h0 (fun _ => rfl) (by omega)]
              dsimp only [Option.bind]
              rw [hb.2, (bk_ix hb.1).1, if_pos rfl, (bk_ix hb.1).2, hl.2.1.2.2, p2_I (by omega)]
              by_cases c : tw2 x (2 + 54 * p) < 2 ^ L.nt
              · obtain ⟨z1, z2⟩ := ozS_N hs hl (c := tw2 x (2 + 54 * p)) (by omega)
                have z3 := lnb hl (tw2 x (2 + 54 * p))
                have sm : f_X11_sumOf (nI (tw2 x (2 + 54 * p))) 0 m = some (nI (bsum (fun t => nw (ozN x ld) (L.tn t)) L.nt (tw2 x (2 + 54 * p))), m) := by
                  rw [sum_M hb hl (by omega), if_pos rfl, oz_s hl, bsum_cg (fun t ht => wN_nw hl ht)]
                rw [if_pos (nI_lt c (by omega)), sm]
                dsimp only
                rw [rowAt_M h h0 (by omega), if_neg (by decide)]
                dsimp only [ltt]
                rw [nI_l (by omega), lN_add, lN_add, rowAt_M h h0 (by omega), if_pos rfl]
                dsimp only
                rw [lN_add, w255 h h0 (f_X11_isWhole_164 f) (by omega), nI_1]
                have := ih (p + 1) f (by omega) (by omega) (fun q hq => by
                  by_cases e : q = p
                  · rw [e]; exact c
                  · exact hok q (by omega))
                have g1 : rS x (ozN x ld) (hS L) + rivT x L + btot (pL x ld L) (p + 1) = rS x (ozN x ld) (hS L) + rivT x L + btot (pL x ld L) p + (bsum (fun t => nw (ozN x ld) (L.tn t)) L.nt (tw2 x (2 + 54 * p)) + rS x (ozN x ld) (4 + 54 * p)) := by
                  rw [btot, show pL x ld L p = bsum (fun t => nw (ozN x ld) (L.tn t)) L.nt (tw2 x (2 + 54 * p)) + rS x (ozN x ld) (4 + 54 * p) from rfl]
                  omega
                have g2 : rS x (fun _ => 1) (hS L) + btot (pT x L) (p + 1) = rS x (fun _ => 1) (hS L) + btot (pT x L) p + rS x (fun _ => 1) (4 + 54 * p) + bsum (lnN L) L.nt (tw2 x (2 + 54 * p)) := by
                  rw [btot, show pT x L p = bsum (lnN L) L.nt (tw2 x (2 + 54 * p)) + rS x (fun _ => 1) (4 + 54 * p) from rfl]
                  omega
                rw [g1, g2] at this
                exact this
              · rw [if_neg (nI_nlt (by omega) (by omega))]
                exact ⟨false, no _ c (fun o => o.2.2.2.2.2.1 p (by omega)), rfl⟩
          -- the seal
          have l73 : ∀ d i f (c : Int32), i + d = n - 1 → d < f → itr (fun c i => jrem (3 * c + gI x 1 i) 239) d c i = SL x (n - 1) → ∃ b : Bool, (b = true ↔ OkT x ld L n) ∧ f_X11_isWhole_73 f (nI n) (nI (hS L)) (nI (tb x (hS L + 55))) c (nI i) m = some (bi b, m) := by
            intro d
            induction d with
            | zero =>
              intro i f c hi hf hc
              obtain ⟨f, rfl⟩ : ∃ k, f = k + 1 := ⟨f - 1, by omega⟩
              have hc : c = SL x (n - 1) := hc
              have tn1 := (tb_e h0 (i := n - 1) (by omega)).2.1
              rw [e_X11_isWhole_73, show nI n - 1 = nI (n - 1) from pk_sub (a := n) (b := 1) (by omega), if_pos (nI_le (by omega) (by omega)), if_pos (inb_nI (by omega) (by omega)), ix_nI (by omega), tn1, hc]
              by_cases p4 : SL x (n - 1) = nI (tb x (n - 1))
              · have b1 := tb_e h0 (i := hS L + 52) (by omega)
                have b2 := tw2_le h0 (i := hS L + 53) (by omega)
                rw [if_pos p4.symm, rowAt_M h h0 (by omega), if_neg (by decide)]
                dsimp only [Option.bind]
                rw [show (52 : Int32) = nI 52 from rfl, nI_add, show (53 : Int32) = nI 53 from rfl, nI_add, if_pos (inb_nI (by omega) (by omega)), two_M h0 (fun _ => rfl) (by omega), ix_nI (by omega), b1.2.1]
                dsimp only [ltt]
                rw [rowAt_M h h0 (by omega), if_pos rfl]
                dsimp only
                rw [nI_l (by omega), nI_l (by omega), show (65536 : Int64) = lN 65536 from rfl, lN_mul, lN_add, lN_add]
                have := l164 p4 L.np 0 FU (by omega) (by rw [FU_eq]; omega) (fun q hq => by omega)
                rw [btot, btot, Nat.add_zero, Nat.add_zero] at this
                unfold rivT at this
                rw [← Nat.add_assoc] at this
                exact this
              · rw [if_neg (fun q => p4 q.symm)]
                exact ⟨false, no _ p4 (fun o => o.2.2.2.1), rfl⟩
            | succ d ih =>
              intro i f c hi hf hc
              obtain ⟨f, rfl⟩ : ∃ k, f = k + 1 := ⟨f - 1, by omega⟩
              have te := tb_e h0 (i := i) (by omega)
              rw [e_X11_isWhole_73, show nI n - 1 = nI (n - 1) from pk_sub (a := n) (b := 1) (by omega), if_neg (nI_ge (by omega) (by omega)), if_pos (inb_nI (by omega) (by omega)), ix_nI (by omega), te.2.1, ← te.1, nI_1]
              exact ih (i + 1) f _ (by omega) (by omega) hc
          exact l73 (n - 1) 0 FU 41 (by omega) (by rw [FU_eq]; omega) rfl
        · rw [if_neg (fun q => p3 (by have := (nI_eq (by omega) (by omega)).mp q; omega))]
          exact ⟨false, no _ p3 (fun o => o.2.2.1), rfl⟩
      · rw [if_pos (show (30 : Int32) < nI (tb x (hS L + 55)) from nI_lt (a := 30) (by omega) (by omega))]
        exact ⟨false, no _ p2 (fun o => o.2.1), rfl⟩
    · rw [if_neg (show ¬ nI (tw2 x 0) ≤ (999 : Int32) from nI_ge (a := 999) (by omega) (by omega))]
      exact ⟨false, no _ p5 (fun o => o.2.2.2.2.1), rfl⟩
  · rw [if_pos (nI_lt (by omega) (by omega))]
    exact ⟨false, no _ p1 (fun o => o.1), rfl⟩
end FitsM
