/-! ===== statements: a law ===== -/
def StL (t : Nat → Nat) (n p ls ib : Nat) (b : Bool) (x m x' m' : St) : Prop := StOK t n p ls ib b x m x' m' ∨ (b = true ∧ FL ls ib x m x' m' ∧ Bd x' m')
def LaX (ls A nl : Nat) (x x' : St) : Prop := (∀ o k, o ≠ 3 → o ≠ 5 → ¬ (o = ls ∧ k = 9) → ¬ (o = ls + 19 ∧ A ≤ k) → o ≠ ls + 11 → ¬ (o = ls + 10 ∧ k = 4) → ¬ (o = ls + 12 ∧ 3 * nl ≤ k ∧ k < 3 * nl + 3) → gI x' o k = gI x o k) ∧ ∀ o k, gR x' o k = gR x o k
def LaM (ib B nl : Nat) (m m' : St) : Prop := (∀ o k, ¬ MFx ib B 0 0 o k → ¬ (17 ≤ o ∧ o ≤ 19 ∧ k = 8 * ib + nl) → gI m' o k = gI m o k) ∧ ∀ o k, ¬ (o = 0 ∧ k = 7) → gL m' o k = gL m o k
def tl3 (w2 : Int32) (σ : St) : Option (Unit × St) := if inb w2 16 = true then (ltt (sI σ 19 (ix w2) (gI σ 0 37)) fun σ8 => if (gI σ8 0 8) = 0 then (ltt (gI σ8 0 38) fun w9 => if inb w9 2 = true then (if inb w9 2 = true then (ltt (sI σ8 16 (ix w9) ((gI σ8 16 (ix w9)) + (1 : Int32))) fun σ10 => some ((), σ10)) else none) else none) else (some ((), σ8))) else none
noncomputable def rd3 (w2 : Int32) (σ : St) : Option (Unit × St) := if (gI σ 0 8) = 0 then ((f_X11_reads (1 : Int32) σ).bind fun q7 => tl3 w2 q7.2) else tl3 w2 σ
noncomputable def tl2 (w2 : Int32) (σ : St) : Option (Unit × St) := if inb w2 16 = true then (ltt (sI σ 18 (ix w2) (gI σ 0 37)) fun σ6 => rd3 w2 σ6) else none
theorem lawE_M (s1 : Int32) (σ : St) : f_X11_law_20 s1 σ = (f_X11_counts s1 σ).bind fun q1 => if q1.1 = 0 then (some ((), q1.2)) else (if inb (gI q1.2 0 38) 2 = true then (ltt (((8 : Int32) * (gI q1.2 0 38)) + (gI q1.2 16 (ix (gI q1.2 0 38)))) fun w2 => if inb w2 16 = true then (ltt (sI q1.2 17 (ix w2) (gI q1.2 0 37)) fun σ3 => (f_X11_reads (0 : Int32) σ3).bind fun q4 => (f_X11_must_ (wl 13) q4.2).bind fun q5 => tl2 w2 q5.2) else none) else none) := rfl
noncomputable def lX3 (q20 : Int32) (σ : St) : Option (Int32 × St) := (f_X5_test 24 (0 : Int32) σ).bind fun q29 => if q29.1 = 0 then (some ((0 : Int32), q29.2)) else (ltt (gR q29.2 5 1) fun g30 => if landB g30 = true then (ltt (gR q29.2 5 1) fun g31 => if landB g31 = true then ((f_X8_put (g30 + 10) q20 (2 : Int32) (gI q29.2 g31 9) q29.2).bind fun q32 => some ((1 : Int32), q32.2)) else none) else none)
noncomputable def lX2 (q20 : Int32) (σ : St) : Option (Int32 × St) := (f_X5_token (413 : Int32) σ).bind fun q25 => if q25.1 = 0 then (some ((0 : Int32), q25.2)) else (ltt (gR q25.2 5 1) fun g26 => if landB g26 = true then (ltt (gR q25.2 5 1) fun g27 => if landB g27 = true then ((f_X8_put (g26 + 10) q20 (1 : Int32) (gI q25.2 g27 9) q25.2).bind fun q28 => lX3 q20 q28.2) else none) else none)
noncomputable def lX1 (q20 : Int32) (σ : St) : Option (Int32 × St) := (f_X5_sum 24 (0 : Int32) σ).bind fun q24 => if q24.1 = 0 then (some ((0 : Int32), q24.2)) else lX2 q20 q24.2
theorem lawE_X (σ : St) : f_X5_newLaw σ = ltt (gR σ 5 1) fun g17 => if landB g17 = true then ((f_X5_begin (g17 + 10) σ).bind fun q18 => if q18.1 = 0 then (some ((0 : Int32), q18.2)) else (ltt (gR q18.2 5 1) fun g19 => if landB g19 = true then ((f_X8_add (g19 + 10) (0 : Int32) q18.2).bind fun q20 => ltt (gR q20.2 5 1) fun g21 => if landB g21 = true then (ltt (gR q20.2 5 1) fun g22 => if landB g22 = true then ((f_X8_put (g21 + 10) q20.1 (0 : Int32) (gI q20.2 g22 9) q20.2).bind fun q23 => lX1 q20.1 q23.2) else none) else none) else none)) else none := rfl
section La
variable {t : Nat → Nat} {n p ls ib A B nl : Nat} {L : LD} {x m x' m' x'' m'' : St}
theorem LaX.rf : LaX ls A nl x x := ⟨fun _ _ _ _ _ _ _ _ _ => rfl, fun _ _ => rfl⟩
theorem LaX.tr (h : LaX ls A nl x x') (g : LaX ls A nl x' x'') : LaX ls A nl x x'' := ⟨fun o k e1 e2 e3 e4 e5 e6 e7 => (g.1 o k e1 e2 e3 e4 e5 e6 e7).trans (h.1 o k e1 e2 e3 e4 e5 e6 e7), fun o k => (g.2 o k).trans (h.2 o k)⟩
theorem LaX.of {A' : Nat} (h : XFr ls A' x x') (hA : A ≤ A') : LaX ls A nl x x' := ⟨fun o k e1 e2 e3 e4 _ _ _ => h.1 o k e1 e2 e3 (by omega), h.2.1⟩
theorem LaX.s {o j : Nat} {v : Int32} (h : o = ls + 11 ∨ (o = ls + 10 ∧ j = 4) ∨ (o = ls + 12 ∧ 3 * nl ≤ j ∧ j < 3 * nl + 3)) : LaX ls A nl x (sI x o j v) := ⟨fun a b _ _ _ _ _ _ _ => ge_n (by omega), fun _ _ => rfl⟩
theorem LaM.rf : LaM ib B nl m m := ⟨fun _ _ _ _ => rfl, fun _ _ _ => rfl⟩
theorem LaM.tr (h : LaM ib B nl m m') (g : LaM ib B nl m' m'') : LaM ib B nl m m'' := ⟨fun o k e1 e2 => (g.1 o k e1 e2).trans (h.1 o k e1 e2), fun o k e => (g.2 o k e).trans (h.2 o k e)⟩
theorem LaM.of {B' : Nat} (h : MF ib B' 0 0 m m') (hB : B ≤ B') : LaM ib B nl m m' := ⟨fun o k e1 _ => (h.w hB (Nat.le_refl _) (Nat.le_refl _)).1 o k e1, h.2⟩
theorem LaM.s {o : Nat} {v : Int32} (h : 17 ≤ o ∧ o ≤ 19) : LaM ib B nl m (sI m o (8 * ib + nl) v) := ⟨fun a b _ _ => ge_n (by omega), fun _ _ _ => rfl⟩
theorem put_X {r s z w cl : Nat} (v : Int32) (e4 : gI x r 4 = nI z) (e1 : gI x r 1 = nI w) (hs : s < z) (hz : z < 100) (hcl : cl < w) (hw : w < 10) (hl : s * w + cl < lnX (r + 2)) (hln : lnX (r + 2) < 1000) : f_X8_put r (nI s) (nI cl) v x = some ((), sI x (r + 2) (s * w + cl) v) := by
  rw [e_X8_put, holds_X e4 (by omega), inb_nI (by omega) (by omega)]
  dsimp only [Option.bind]
  rw [bT, if_neg (nI_pos (by omega)), e1, if_neg (nI_ge hcl (by omega)), pk_mul, nI_add, if_pos (inb_nI hl (by omega)), ix_nI (by omega)]
  rfl
theorem tl3_n {w2 : Int32} {j : Nat} (hw : inb w2 16 = true) (hj : ix w2 = j) (h0 : ¬ gI m 0 8 = 0) : tl3 w2 m = some ((), sI m 19 j (gI m 0 37)) := by
  unfold tl3
  rw [if_pos hw, hj]
  dsimp only [ltt]
  rw [if_neg (by rw [ge_n (by omega)]; exact h0)]
theorem tl3_y {w2 : Int32} {j : Nat} (hw : inb w2 16 = true) (hj : ix w2 = j) (h0 : gI m 0 8 = 0) (hib : ib < 2) (h38 : gI m 0 38 = nI ib) (h16 : gI m 16 ib = nI nl) : tl3 w2 m = some ((), sI (sI m 19 j (gI m 0 37)) 16 ib (nI (nl + 1))) := by
  unfold tl3
  rw [if_pos hw, hj]
  dsimp only [ltt]
  rw [if_pos (by rw [ge_n (by omega)]; exact h0), show gI (sI m 19 j (gI m 0 37)) 0 38 = nI ib from (ge_n (by omega)).trans h38, if_pos (bk_ix hib).1, if_pos (bk_ix hib).1, (bk_ix hib).2, show gI (sI m 19 j (gI m 0 37)) 16 ib = nI nl from (ge_n (by omega)).trans h16, nI_1]
theorem rd3_n {w2 : Int32} {j : Nat} (hw : inb w2 16 = true) (hj : ix w2 = j) (h0 : ¬ gI m 0 8 = 0) : rd3 w2 m = some ((), sI m 19 j (gI m 0 37)) := by
  unfold rd3
  rw [if_neg h0, tl3_n hw hj h0]
theorem tl2_n {w2 : Int32} {j : Nat} (hw : inb w2 16 = true) (hj : ix w2 = j) (h0 : ¬ gI m 0 8 = 0) : tl2 w2 m = some ((), sI (sI m 18 j (gI m 0 37)) 19 j (gI m 0 37)) := by
  unfold tl2
  rw [if_pos hw, hj]
  dsimp only [ltt]
  rw [rd3_n hw hj (by rw [ge_n (by omega)]; exact h0), ge_n (by omega)]
theorem FL.lw {o : Nat} {v : Int32} (hn : nl < 8) (h : 17 ≤ o ∧ o ≤ 19) : FL ls ib x m x (sI m o (8 * ib + nl) v) := FL.sm (.inr (by
  have : wd o = 8 := by rcases (by omega : o = 17 ∨ o = 18 ∨ o = 19) with rfl | rfl | rfl <;> rfl
  rw [this]; omega))
/-- one law more -/
theorem RP.law (hP : RP ls ib L x m A B) (hn : L.nl < 8) (hx : LaX ls A L.nl x x') (hm : LaM ib B L.nl m m') {s u : List Tok} (hs : Ex s false 0) (hu : Ex u true 0) (h10 : gI x' (ls + 10) 4 = nI (L.nl + 1)) (h9 : gI x' ls 9 = nI (A + (cX s).length + (cX u).length)) (h37 : gI m' 0 37 = nI (B + (cM s).length + (cM u).length))
    (hx12 : gI x' (ls + 12) (3 * L.nl) = nI A ∧ gI x' (ls + 12) (3 * L.nl + 1) = nI (A + (cX s).length) ∧ gI x' (ls + 12) (3 * L.nl + 2) = nI (A + (cX s).length + (cX u).length)) (hcx : CodeX x' (ls + 19) A (cX s ++ cX u))
    (hm17 : gI m' 17 (8 * ib + L.nl) = nI B ∧ gI m' 18 (8 * ib + L.nl) = nI (B + (cM s).length) ∧ gI m' 19 (8 * ib + L.nl) = nI (B + (cM s).length + (cM u).length)) (hcm : CodeM m' (1600 * ib + B) (cM s ++ cM u)) (hB : B ≤ 1600) :
    RP ls ib ((L.np, L.nt, L.na, L.nl + 1, L.nb), L.pn, L.tn, L.bn) x' (sI m' 16 ib (nI (L.nl + 1))) (A + (cX s).length + (cX u).length) (B + (cM s).length + (cM u).length) := by
  obtain ⟨h0, h1, h2, h3, h4, h5, h6, h7, h8, hh9⟩ := hP
  have hl := land_o h0.1
  have hib := h0.2.1
  have gx : ∀ o k, o ≠ 3 → o ≠ 5 → ¬ (o = ls ∧ k = 9) → o ≠ ls + 19 → o ≠ ls + 11 → ¬ (o = ls + 10 ∧ k = 4) → o ≠ ls + 12 → gI x' o k = gI x o k := fun o k e1 e2 e3 e4 e5 e6 e7 => hx.1 o k e1 e2 e3 (by omega) e5 e6 (by omega)
  have gm : ∀ o k, 2 ≤ o → o ≤ 25 → o ≠ 24 → o ≠ 25 → ¬ (17 ≤ o ∧ o ≤ 19) → ¬ (o = 16 ∧ k = ib) → gI (sI m' 16 ib (nI (L.nl + 1))) o k = gI m o k := fun o k e1 e2 e3 e4 e5 e6 => (ge_n (by omega)).trans (hm.1 o k (by unfold MFx; omega) (by omega))
  have gl : ∀ o k, ¬ (o = 0 ∧ k = 7) → gL (sI m' 16 ib (nI (L.nl + 1))) o k = gL m o k := fun o k e => hm.2 o k e
  refine ⟨h0.c (hx.2 5 1) ((ge_n (by omega)).trans (hm.1 0 38 (by unfold MFx; omega) (by omega))) (fun r j hr hj => gx _ _ (by have := roll_o hr; omega) (by have := roll_o hr; omega) (by have := roll_o hr; omega) (by have := roll_o hr; omega) (by have := roll_o hr; omega) (by omega) (by have := roll_o hr; omega)), h1.c ⟨rfl, rfl⟩ (fun o k _ _ => gx _ _ (by omega) (by omega) (by omega) (by omega) (by omega) (by omega) (by omega)) (fun o k _ => gm _ _ (by omega) (by omega) (by omega) (by omega) (by omega) (by omega)) (fun k => gl _ _ (by omega)), h2.c ⟨rfl, rfl⟩ (fun o k _ _ => gx _ _ (by omega) (by omega) (by omega) (by omega) (by omega) (by omega) (by omega)) (fun o k _ => gm _ _ (by omega) (by omega) (by omega) (by omega) (by omega) (by omega)) (fun k => gl _ _ (by omega)), h3.c rfl (fun o k _ _ => gx _ _ (by omega) (by omega) (by omega) (by omega) (by omega) (by omega) (by omega)) (fun o k _ => gm _ _ (by omega) (by omega) (by omega) (by omega) (by omega) (by omega)), h4.c ⟨rfl, rfl⟩ (fun o k _ _ => gx _ _ (by omega) (by omega) (by omega) (by omega) (by omega) (by omega) (by omega)) (fun o k _ => gm _ _ (by omega) (by omega) (by omega) (by omega) (by omega) (by omega)) (fun k => gl _ _ (by omega)), h5.c (fun k => gx _ _ (by omega) (by omega) (by omega) (by omega) (by omega) (by omega) (by omega)) (fun k => gm _ _ (by omega) (by omega) (by omega) (by omega) (by omega) (by omega)), h6.c (fun k => gx _ _ (by omega) (by omega) (by omega) (by omega) (by omega) (by omega) (by omega)) (fun k => gm _ _ (by omega) (by omega) (by omega) (by omega) (by omega) (by omega)), h7.c ⟨rfl, rfl⟩ (fun k => gx _ _ (by omega) (by omega) (by omega) (by omega) (by omega) (by omega) (by omega)) (fun k => gm _ _ (by omega) (by omega) (by omega) (by omega) (by omega) (by omega)), h8.c (gx _ _ (by omega) (by omega) (by omega) (by omega) (by omega) (by omega) (by omega)) (gm _ _ (by omega) (by omega) (by omega) (by omega) (by omega) (by omega)), ?_⟩
  obtain ⟨k0, k1, k2, k3⟩ := hh9
  refine ⟨⟨by show L.nl + 1 ≤ 8; omega, h10, ge_s⟩, h9, (ge_n (by omega)).trans h37, fun i hi => ?_⟩
  have hi' : i < L.nl + 1 := hi
  by_cases z : i = L.nl
  · subst z
    refine ⟨s, u, A, B, hs [] (by show (0 : Nat) ≤ 0; omega), hu [] (by show (0 : Nat) ≤ 0; omega), hx12.1, hx12.2.1, hx12.2.2, Nat.le_refl _, hcx, (ge_n (by omega)).trans hm17.1, (ge_n (by omega)).trans hm17.2.1, (ge_n (by omega)).trans hm17.2.2, Nat.le_refl _, fun k hk => ?_⟩
    rw [ge_n (by omega), ge_n (by omega)]; exact hcm k hk
  · refine (k3.c (x' := x') (m' := sI m' 16 ib (nI (L.nl + 1))) (A' := A + (cX s).length + (cX u).length) (B' := B + (cM s).length + (cM u).length) (by omega) (by omega) (fun a ha j hj => ?_) (fun k hk => ?_) (fun o a ha ho => ?_) (fun o k ho hk => ?_)) i (by omega)
    · exact hx.1 _ _ (by omega) (by omega) (by omega) (by omega) (by omega) (by omega) (by omega)
    · exact hx.1 _ _ (by omega) (by omega) (by omega) (by omega) (by omega) (by omega) (by omega)
    · exact (ge_n (by omega)).trans (hm.1 _ _ (by unfold MFx; omega) (by omega))
    · exact (ge_n (by omega)).trans (hm.1 _ _ (by unfold MFx; rcases (by omega : ib = 0 ∨ ib = 1) with rfl | rfl <;> omega) (by omega))
end La
