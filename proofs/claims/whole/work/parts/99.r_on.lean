/-! ===== the row of numbers is taken over, there ===== -/
section RestM
variable {ld bk : Nat} {L : LD} {x m : St} {n0 : Nat}
def RestD (x : St) (L : LD) (m : St) (nb : Nat) (τ : St) : Prop := gI τ 0 52 = nI (tw2 x 0) ∧ gI τ 0 55 = nI (rivT x L) ∧ gI τ 0 60 = nI nb ∧ (∀ i, i < nb → gI τ 40 i = nI (bS x L i)) ∧ (∀ q, q < 8 → gI τ 35 q = if q < L.np then nI (tw2 x (2 + 54 * q)) else gI m 35 q) ∧ (∀ j, j < 234 → gI τ 36 j = if j / 26 < L.np then nI (tw2 x (4 + 54 * (j / 26) + 2 * (j % 26))) else if j / 26 = 8 then nI (tw2 x (hS L + 2 * (j % 26))) else gI m 36 j) ∧ (∀ j, j < 12 * L.np → gI τ 43 j = nI (tw2 x 0)) ∧ gI τ 0 62 = 0 ∧ gI τ 0 64 = 0 ∧ gI τ 0 56 = 0
theorem rest_M (h : K ld bk L x m) (h0 : RelA n0 x m) (hnb : tb x (hS L + 55) ≤ 30) : ∃ τ', ((f_X11_two (0 : Int32) m).bind fun q27 => ltt (sI q27.2 0 52 q27.1) fun σ28 => f_X11_on_43 FU (0 : Int32) σ28) = some (1, τ') ∧ RestD x L m (tb x (hS L + 55)) τ' ∧ DyM m τ' := by
  obtain ⟨-, hs, hb, hl, hw, hd⟩ := id h
  have h8 := hl.1.1
  have hbk := hb.1
  have hH : hS L = 2 + 54 * L.np := rfl
  have n2 : f_X11_two 0 m = some (nI (tw2 x 0), m) := two_M h0 (fun _ => rfl) (a := 0) (by omega)
  let m1 := sI m 0 52 (nI (tw2 x 0))
  have m1f : ∀ o k, ¬ (o = 0 ∧ k = 52) → gI m1 o k = gI m o k := fun o k e => by show gI (sI m 0 52 _) o k = _; rw [gI_sI, if_neg e]
  have y1 : gI m1 0 52 = nI (tw2 x 0) := by show gI (sI m 0 52 _) 0 52 = _; rw [gI_sI, if_pos ⟨rfl, rfl⟩]
  -- persons
  obtain ⟨m2, ⟨p1, p3, p4, p5, p6⟩, e2⟩ := loop_exF (fun n (τ : St) i => f_X11_on_43 n (nI i) τ) (fun τ => f_X11_on_163 FU (nI (hS L)) 0 τ) L.np (by omega) (fun i τ => (∀ o k, o ≠ 35 → o ≠ 36 → o ≠ 43 → gI τ o k = gI m1 o k) ∧ (∀ o k, gL τ o k = gL m o k) ∧ (∀ q, q < 8 → gI τ 35 q = if q < i then nI (tw2 x (2 + 54 * q)) else gI m 35 q) ∧ (∀ j, j < 234 → gI τ 36 j = if j / 26 < i then nI (tw2 x (4 + 54 * (j / 26) + 2 * (j % 26))) else gI m 36 j) ∧ ∀ j, j < 12 * i → gI τ 43 j = nI (tw2 x 0)) (fun n τ hτ => by
    obtain ⟨b1, b3, b4, b5, b6⟩ := hτ
    have gb : gI τ 0 12 = nI bk := by rw [b1 0 12 (by decide) (by decide) (by decide), m1f 0 12 (by decide)]; exact hb.2
    have g3 : gI τ 3 bk = nI L.np := by rw [b1 3 bk (by decide) (by decide) (by decide), m1f 3 bk (by omega)]; exact hl.1.2.2
    rw [e_X11_on_43, gb, (bk_ix hb.1).1, if_pos rfl, (bk_ix hb.1).2, g3, if_pos (nI_le (Nat.le_refl _) (by omega)), if_pos rfl, show (2 : Int32) = nI 2 from rfl, show (54 : Int32) = nI 54 from rfl, pk_mul, nI_add]
    rfl) (fun n τ i hi hτ => by
    obtain ⟨b1, b3, b4, b5, b6⟩ := hτ
    have gb : gI τ 0 12 = nI bk := by rw [b1 0 12 (by decide) (by decide) (by decide), m1f 0 12 (by decide)]; exact hb.2
    have g3 : gI τ 3 bk = nI L.np := by rw [b1 3 bk (by decide) (by decide) (by decide), m1f 3 bk (by omega)]; exact hl.1.2.2
    have tp : ∀ k, gI τ 1 k = gI m 1 k := fun k => by rw [b1 1 k (by decide) (by decide) (by decide), m1f 1 k (by omega)]
    -- letters
    obtain ⟨τ1, ⟨c1, c2, c3⟩, ec⟩ := loop_exF (fun f (ρ : St) j => f_X11_on_74 (f_X11_on_43 n) f (nI i) (nI j) ρ) (fun ρ => f_X11_on_113 (f_X11_on_43 n) FU (nI i) 0 ρ) 26 (by omega) (fun j ρ => (∀ o k, o ≠ 36 → gI ρ o k = gI (sI τ 35 i (nI (tw2 x (2 + 54 * i)))) o k) ∧ (∀ o k, gL ρ o k = gL m o k) ∧ ∀ k, k < 234 → gI ρ 36 k = if k / 26 = i ∧ k % 26 < j then nI (tw2 x (4 + 54 * i + 2 * (k % 26))) else gI τ 36 k) (fun f ρ hρ => by
      rw [e_X11_on_74, if_pos (by decide)]) (fun f ρ j hj hρ => by
      obtain ⟨d1, d2, d3⟩ := hρ
      refine ⟨sI ρ 36 (26 * i + j) (nI (tw2 x (4 + 54 * i + 2 * j))), ?_, fun o k ho => by rw [gI_sI, if_neg (fun q => ho q.1)]; exact d1 o k ho, d2, fun k hk => ?_⟩
      · rw [e_X11_on_74, if_neg (show ¬ (26 : Int32) ≤ nI j from nI_ge (b := 26) hj (by omega)), show (4 : Int32) = nI 4 from rfl, show (54 : Int32) = nI 54 from rfl, show (2 : Int32) = nI 2 from rfl, show (26 : Int32) = nI 26 from rfl, pk_mul, pk_mul, pk_mul, nI_add, nI_add, nI_add, two_M h0 (fun k => by rw [d1 1 k (by decide), gI_sI, if_neg (by omega)]; exact tp k) (by omega)]
        dsimp only [Option.bind]
        rw [if_pos (inb_nI (by omega) (by omega)), ix_nI (by omega), nI_1]
        rfl
      · rw [gI_sI]
        by_cases e : k = 26 * i + j
        · rw [if_pos ⟨rfl, e⟩, if_pos (by omega), show k % 26 = j by omega]
        · rw [if_neg (fun q => e q.2), d3 k hk]
          by_cases c : k / 26 = i ∧ k % 26 < j
          · rw [if_pos c, if_pos (by omega)]
          · rw [if_neg c, if_neg (by omega)]) (sI τ 35 i (nI (tw2 x (2 + 54 * i)))) ⟨fun _ _ _ => rfl, b3, fun k hk => by rw [if_neg (by omega), gI_sI, if_neg (by omega)]⟩
    -- since when
    obtain ⟨τ2, ⟨d1, d2, d3⟩, ed⟩ := loop_exF (fun f (ρ : St) j => f_X11_on_113 (f_X11_on_43 n) f (nI i) (nI j) ρ) (fun ρ => f_X11_on_43 n (nI (i + 1)) ρ) 12 (by omega) (fun j ρ => (∀ o k, o ≠ 43 → gI ρ o k = gI τ1 o k) ∧ (∀ o k, gL ρ o k = gL m o k) ∧ ∀ k, gI ρ 43 k = if 12 * i ≤ k ∧ k < 12 * i + j then nI (tw2 x 0) else gI τ1 43 k) (fun f ρ hρ => by
      rw [e_X11_on_113, if_pos (by decide), nI_1]) (fun f ρ j hj hρ => by
      obtain ⟨q1, q2, q3⟩ := hρ
      have y : gI ρ 0 52 = nI (tw2 x 0) := by rw [q1 0 52 (by decide), c1 0 52 (by decide), gI_sI, if_neg (by omega), b1 0 52 (by decide) (by decide) (by decide)]; exact y1
      refine ⟨sI ρ 43 (12 * i + j) (nI (tw2 x 0)), ?_, fun o k ho => by rw [gI_sI, if_neg (fun q => ho q.1)]; exact q1 o k ho, q2, fun k => ?_⟩
      · rw [e_X11_on_113, if_neg (show ¬ (12 : Int32) ≤ nI j from nI_ge (b := 12) hj (by omega)), show (12 : Int32) = nI 12 from rfl, pk_mul, nI_add, if_pos (inb_nI (by omega) (by omega)), ix_nI (by omega), y, nI_1]
        rfl
      · rw [gI_sI]
        by_cases e : k = 12 * i + j
        · rw [if_pos ⟨rfl, e⟩, if_pos (by omega)]
        · rw [if_neg (fun q => e q.2), q3 k]
          by_cases c : 12 * i ≤ k ∧ k < 12 * i + j
          · rw [if_pos c, if_pos (by omega)]
          · rw [if_neg c, if_neg (by omega)]) τ1 ⟨fun _ _ _ => rfl, c2, fun k => by rw [if_neg (by omega)]⟩
    refine ⟨τ2, ?_, fun o k o1 o2 o3 => by rw [d1 o k o3, c1 o k o2, gI_sI, if_neg (fun q => o1 q.1)]; exact b1 o k o1 o2 o3, d2, fun q hq => ?_, fun j hj => ?_, fun j hj => ?_⟩
    · rw [e_X11_on_43, gb, (bk_ix hb.1).1, if_pos rfl, (bk_ix hb.1).2, g3, if_neg (nI_ge hi (by omega)), show (2 : Int32) = nI 2 from rfl, show (54 : Int32) = nI 54 from rfl, pk_mul, nI_add, two_M h0 tp (by omega)]
      dsimp only [Option.bind]
      rw [if_pos (inb_nI (by omega) (by omega)), ix_nI (by omega)]
      exact Eq.trans ec ed
    · rw [d1 35 q (by decide), c1 35 q (by decide), gI_sI]
      by_cases c : q = i
      · rw [if_pos ⟨rfl, c⟩, if_pos (by omega), c]
      · rw [if_neg (fun w => c w.2), b4 q hq]
        by_cases c2 : q < i
        · rw [if_pos c2, if_pos (by omega)]
        · rw [if_neg c2, if_neg (by omega)]
    · rw [d1 36 j (by decide), c3 j hj, b5 j hj]
      by_cases c : j / 26 = i
      · rw [if_pos ⟨c, by omega⟩, if_pos (by omega), c]
      · rw [if_neg (fun q => c q.1)]
        by_cases c2 : j / 26 < i
        · rw [if_pos c2, if_pos (by omega)]
        · rw [if_neg c2, if_neg (by omega)]
    · rw [d3 j]
      by_cases c : 12 * i ≤ j ∧ j < 12 * i + 12
      · rw [if_pos c]
      · rw [if_neg c, c1 43 j (by decide), gI_sI, if_neg (by omega)]; exact b6 j (by omega)) m1 ⟨fun _ _ _ _ _ => rfl, fun _ _ => rfl, fun q hq => by rw [if_neg (by omega)]; exact m1f 35 q (by omega), fun j hj => by rw [if_neg (by omega)]; exact m1f 36 j (by omega), fun j hj => by omega⟩
  have tp2 : ∀ k, gI m2 1 k = gI m 1 k := fun k => by rw [p1 1 k (by decide) (by decide) (by decide), m1f 1 k (by omega)]
  have b52 := tb_e h0 (i := hS L + 52) (by omega)
  have b55 := tb_e h0 (i := hS L + 55) (by omega)
  -- the heap
  obtain ⟨m3, ⟨c1, c2, c3⟩, e3⟩ := loop_exF (fun f (ρ : St) j => f_X11_on_163 f (nI (hS L)) (nI j) ρ) (fun ρ => f_X11_on_235 FU (nI (hS L)) 0 (sI (sI ρ 0 55 (nI (rivT x L))) 0 60 (nI (tb x (hS L + 55))))) 26 (by omega) (fun j ρ => (∀ o k, o ≠ 36 → gI ρ o k = gI m2 o k) ∧ (∀ o k, gL ρ o k = gL m o k) ∧ ∀ k, k < 234 → gI ρ 36 k = if k / 26 = 8 ∧ k % 26 < j then nI (tw2 x (hS L + 2 * (k % 26))) else gI m2 36 k) (fun f ρ hρ => by
    obtain ⟨d1, d2, d3⟩ := hρ
    have tp3 : ∀ k, gI ρ 1 k = gI m 1 k := fun k => by rw [d1 1 k (by decide)]; exact tp2 k
    rw [e_X11_on_163, if_pos (by decide), show (52 : Int32) = nI 52 from rfl, show (53 : Int32) = nI 53 from rfl, show (55 : Int32) = nI 55 from rfl, nI_add, nI_add, nI_add, if_pos (inb_nI (by omega) (by omega)), two_M h0 tp3 (by omega), ix_nI (by omega), ix_nI (by omega), tp3, b52.2.1, show (65536 : Int32) = nI 65536 from rfl, pk_mul]
    dsimp only [Option.bind, ltt]
    rw [nI_add, if_pos (inb_nI (by omega) (by omega)), gI_sI, if_neg (by omega), tp3, b55.2.1]
    rfl) (fun f ρ j hj hρ => by
    obtain ⟨d1, d2, d3⟩ := hρ
    have tp3 : ∀ k, gI ρ 1 k = gI m 1 k := fun k => by rw [d1 1 k (by decide)]; exact tp2 k
    refine ⟨sI ρ 36 (208 + j) (nI (tw2 x (hS L + 2 * j))), ?_, fun o k ho => by rw [gI_sI, if_neg (fun q => ho q.1)]; exact d1 o k ho, d2, fun k hk => ?_⟩
    · rw [e_X11_on_163, if_neg (show ¬ (26 : Int32) ≤ nI j from nI_ge (b := 26) hj (by omega)), show (2 : Int32) = nI 2 from rfl, pk_mul, nI_add, two_M h0 tp3 (by omega)]
      dsimp only [Option.bind]
      rw [show (208 : Int32) = nI 208 from rfl, nI_add, if_pos (inb_nI (by omega) (by omega)), ix_nI (by omega), nI_1]
      rfl
    · rw [gI_sI]
      by_cases e : k = 208 + j
      · rw [if_pos ⟨rfl, e⟩, if_pos (by omega), show k % 26 = j by omega]
      · rw [if_neg (fun q => e q.2), d3 k hk]
        by_cases c : k / 26 = 8 ∧ k % 26 < j
        · rw [if_pos c, if_pos (by omega)]
        · rw [if_neg c, if_neg (by omega)]) m2 ⟨fun _ _ _ => rfl, p3, fun k hk => by rw [if_neg (by omega)]⟩
  let m4 := sI (sI m3 0 55 (nI (rivT x L))) 0 60 (nI (tb x (hS L + 55)))
  have m4f : ∀ o k, ¬ (o = 0 ∧ (k = 55 ∨ k = 60)) → gI m4 o k = gI m3 o k := fun o k e => by show gI (sI (sI m3 0 55 _) 0 60 _) o k = _; rw [gI_sI, if_neg (fun q => e ⟨q.1, Or.inr q.2⟩), gI_sI, if_neg (fun q => e ⟨q.1, Or.inl q.2⟩)]
  have v60 : gI m4 0 60 = nI (tb x (hS L + 55)) := by show gI (sI (sI m3 0 55 _) 0 60 _) 0 60 = _; rw [gI_sI, if_pos ⟨rfl, rfl⟩]
  have v55 : gI m4 0 55 = nI (rivT x L) := by show gI (sI (sI m3 0 55 _) 0 60 _) 0 55 = _; rw [gI_sI, if_neg (by decide), gI_sI, if_pos ⟨rfl, rfl⟩]
  -- bullets
  obtain ⟨m5, ⟨g1, g2, g3⟩, e5⟩ := loop_exF (fun f (ρ : St) i => f_X11_on_235 f (nI (hS L)) (nI i) ρ) (fun ρ => some (1, sI (sI (sI ρ 0 56 0) 0 62 0) 0 64 0)) (tb x (hS L + 55)) (by omega) (fun i ρ => (∀ o k, o ≠ 40 → gI ρ o k = gI m4 o k) ∧ (∀ o k, gL ρ o k = gL m o k) ∧ ∀ j, j < i → gI ρ 40 j = nI (bS x L j)) (fun f ρ hρ => by
    rw [e_X11_on_235, hρ.1 0 60 (by decide), v60, if_pos (nI_le (Nat.le_refl _) (by omega))]
    rfl) (fun f ρ i hi hρ => by
    obtain ⟨d1, d2, d3⟩ := hρ
    have tp5 : ∀ k, gI ρ 1 k = gI m 1 k := fun k => by rw [d1 1 k (by decide), m4f 1 k (by omega), c1 1 k (by decide)]; exact tp2 k
    refine ⟨sI ρ 40 i (nI (bS x L i)), ?_, fun o k ho => by rw [gI_sI, if_neg (fun q => ho q.1)]; exact d1 o k ho, d2, fun j hj => ?_⟩
    · rw [e_X11_on_235, d1 0 60 (by decide), v60, if_neg (nI_ge hi (by omega)), show (56 : Int32) = nI 56 from rfl, show (2 : Int32) = nI 2 from rfl, pk_mul, nI_add, nI_add, two_M h0 tp5 (by omega)]
      dsimp only [Option.bind]
      rw [if_pos (inb_nI (by omega) (by omega)), ix_nI (by omega), nI_1]
      rfl
    · rw [gI_sI]
      by_cases c : j = i
      · rw [if_pos ⟨rfl, c⟩, c]
      · rw [if_neg (fun q => c q.2)]; exact d3 j (by omega)) m4 ⟨fun _ _ _ => rfl, c2, fun j hj => by omega⟩
  let m6 := sI (sI (sI m5 0 56 0) 0 62 0) 0 64 0
  have m6f : ∀ o k, ¬ (o = 0 ∧ (k = 56 ∨ k = 62 ∨ k = 64)) → gI m6 o k = gI m5 o k := fun o k e => by
    show gI (sI (sI (sI m5 0 56 0) 0 62 0) 0 64 0) o k = _
    rw [gI_sI, if_neg (fun q => e ⟨q.1, Or.inr (Or.inr q.2)⟩), gI_sI, if_neg (fun q => e ⟨q.1, Or.inr (Or.inl q.2)⟩), gI_sI, if_neg (fun q => e ⟨q.1, Or.inl q.2⟩)]
  refine ⟨m6, ?_, ⟨?_, ?_, ?_, fun i hi => ?_, fun q hq => ?_, fun j hj => ?_, fun j hj => ?_, ?_, ?_, ?_⟩, ?_⟩
  · rw [n2]
    dsimp only [Option.bind, ltt]
    have e2' : f_X11_on_43 FU 0 m1 = _ := e2
    have e3' : f_X11_on_163 FU (nI (hS L)) 0 m2 = _ := e3
    have e5' : f_X11_on_235 FU (nI (hS L)) 0 m4 = _ := e5
    exact Eq.trans e2' (Eq.trans e3' e5')
  · rw [m6f 0 52 (by decide), g1 0 52 (by decide), m4f 0 52 (by decide), c1 0 52 (by decide), p1 0 52 (by decide) (by decide) (by decide)]; exact y1
  · rw [m6f 0 55 (by decide), g1 0 55 (by decide)]; exact v55
  · rw [m6f 0 60 (by decide), g1 0 60 (by decide)]; exact v60
  · rw [m6f 40 i (by omega)]; exact g3 i hi
  · rw [m6f 35 q (by omega), g1 35 q (by decide), m4f 35 q (by omega), c1 35 q (by decide)]; exact p4 q hq
  · rw [m6f 36 j (by omega), g1 36 j (by decide), m4f 36 j (by omega), c3 j hj, p5 j hj]
    by_cases c : j / 26 = 8
    · rw [if_pos ⟨c, by omega⟩, if_neg (by omega), if_pos c]
    · rw [if_neg (fun q => c q.1), if_neg c]
  · rw [m6f 43 j (by omega), g1 43 j (by decide), m4f 43 j (by omega), c1 43 j (by decide)]; exact p6 j hj
  · show gI (sI (sI (sI m5 0 56 0) 0 62 0) 0 64 0) 0 62 = 0
    rw [gI_sI, if_neg (by decide), gI_sI, if_pos ⟨rfl, rfl⟩]
  · show gI (sI (sI (sI m5 0 56 0) 0 62 0) 0 64 0) 0 64 = 0
    rw [gI_sI, if_pos ⟨rfl, rfl⟩]
  · show gI (sI (sI (sI m5 0 56 0) 0 62 0) 0 64 0) 0 56 = 0
    rw [gI_sI, if_neg (by decide), gI_sI, if_neg (by decide), gI_sI, if_pos ⟨rfl, rfl⟩]
  · refine ⟨fun o k e => ?_, fun o k _ => ?_⟩
    · have ne : ∀ q, dM q k = true → o ≠ q := fun q hq w => by rw [w, hq] at e; cases e
      have n35 : o ≠ 35 := ne 35 (by simp [dM])
      have n36 : o ≠ 36 := ne 36 (by simp [dM])
      have n40 : o ≠ 40 := ne 40 (by simp [dM])
      have n43 : o ≠ 43 := ne 43 (by simp [dM])
      have n0 : ¬ (o = 0 ∧ (k = 52 ∨ k = 55 ∨ k = 56 ∨ k = 60 ∨ k = 62 ∨ k = 64)) := fun w => by obtain ⟨w1, w2⟩ := w; subst w1; rcases w2 with rfl | rfl | rfl | rfl | rfl | rfl <;> cases e
      rw [m6f o k (by omega), g1 o k n40, m4f o k (by omega), c1 o k n36, p1 o k n35 n36 n43, m1f o k (by omega)]
    · show gL m5 o k = _
      exact g2 o k
end RestM
