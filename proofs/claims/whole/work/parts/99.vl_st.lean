/-! ===== statements: letter, heap, year ===== -/
def StOK (t : Nat → Nat) (n p ls ib : Nat) (b : Bool) (x m x' m' : St) : Prop := FL ls ib x m x' m' ∧ ((b = true ∧ ∃ p', p < p' ∧ NX t n p' x' m' ∧ (gI m' 0 8 = 0 → ∃ L' A' B', A' ≤ p' ∧ B' ≤ p' ∧ RP ls ib L' x' m' A' B')) ∨ (b = false ∧ Bd x' m'))
theorem num_f {m : St} (h : ¬ gI m 0 8 ≤ 0) (lo hi : Int32) : f_X11_number lo hi m = some (0, m) := by rw [e_X11_number, if_neg h]
theorem must_f {m : St} (h : ¬ gI m 0 8 ≤ 0) (w : Int64) : f_X11_must_ w m = some ((), m) := by rw [e_X11_must_, if_neg h]
theorem NX.bad {t : Nat → Nat} {n p : Nat} {x m : St} (h : NX t n p x m) (g : ¬ gI m 0 8 = 0) : ¬ gI m 0 8 ≤ 0 := by
  obtain ⟨h1, h2, ⟨q, g1, g2, g3, g4⟩ | ⟨c, a, e, l, v, g1, g2, g3, g4⟩⟩ := h
  · rw [g3]; decide
  · exact absurd g3 g
section St1
variable {t : Nat → Nat} {n p ls ib A B : Nat} {L : LD} {x m : St}
theorem RP.oz (h : RP ls ib L x m A B) {k v : Nat} (hk : k < 26) (hv : 1 ≤ v ∧ v ≤ 99) : RP ls ib L (sI x (ls + 16) k (nI v)) (sI m 2 (26 * ib + k) (nI v)) A B := by
  obtain ⟨h0, h1, h2, h3, h4, h5, h6, h7, h8, h9⟩ := h
  have hl := land_o h0.1
  refine ⟨h0.c rfl (ge_n (by omega)) (fun r j hr _ => ge_n (by have := roll_o hr; omega)), h1.c ⟨rfl, rfl⟩ (fun o k _ _ => ge_n (by omega)) (fun o k _ => ge_n (by omega)) (fun k => rfl), h2.c ⟨rfl, rfl⟩ (fun o k _ _ => ge_n (by omega)) (fun o k _ => ge_n (by omega)) (fun k => rfl), h3.c rfl (fun o k _ _ => ge_n (by omega)) (fun o k _ => ge_n (by omega)), h4.c ⟨rfl, rfl⟩ (fun o k _ _ => ge_n (by omega)) (fun o k _ => ge_n (by omega)) (fun k => rfl), fun j hj => ?_, h6.c (fun k => ge_n (by omega)) (fun k => ge_n (by omega)), h7.c ⟨rfl, rfl⟩ (fun k => ge_n (by omega)) (fun k => ge_n (by omega)), h8.c (ge_n (by omega)) (ge_n (by omega)), h9.c rfl (fun o k _ => ge_n (by omega)) (fun o k _ => ge_n (by omega))⟩
  by_cases c : j = k
  · subst c; exact ⟨v, hv.1, hv.2, ge_s, ge_s⟩
  · rw [ge_n (by omega), ge_n (by omega)]; exact h5 j hj
theorem RP.hp (h : RP ls ib L x m A B) {k v : Nat} (hk : k < 26) (hv : v ≤ 99) : RP ls ib L (sI x (ls + 17) k (nI v)) (sI m 12 (26 * ib + k) (nI v)) A B := by
  obtain ⟨h0, h1, h2, h3, h4, h5, h6, h7, h8, h9⟩ := h
  have hl := land_o h0.1
  refine ⟨h0.c rfl (ge_n (by omega)) (fun r j hr _ => ge_n (by have := roll_o hr; omega)), h1.c ⟨rfl, rfl⟩ (fun o k _ _ => ge_n (by omega)) (fun o k _ => ge_n (by omega)) (fun k => rfl), h2.c ⟨rfl, rfl⟩ (fun o k _ _ => ge_n (by omega)) (fun o k _ => ge_n (by omega)) (fun k => rfl), h3.c rfl (fun o k _ _ => ge_n (by omega)) (fun o k _ => ge_n (by omega)), h4.c ⟨rfl, rfl⟩ (fun o k _ _ => ge_n (by omega)) (fun o k _ => ge_n (by omega)) (fun k => rfl), h5.c (fun k => ge_n (by omega)) (fun k => ge_n (by omega)), fun j hj => ?_, h7.c ⟨rfl, rfl⟩ (fun k => ge_n (by omega)) (fun k => ge_n (by omega)), h8.c (ge_n (by omega)) (ge_n (by omega)), h9.c rfl (fun o k _ => ge_n (by omega)) (fun o k _ => ge_n (by omega))⟩
  by_cases c : j = k
  · subst c; exact ⟨v, hv, ge_s, ge_s⟩
  · rw [ge_n (by omega), ge_n (by omega)]; exact h6 j hj
theorem RP.yr (h : RP ls ib L x m A B) {v : Nat} (hv : v ≤ 99) : RP ls ib L (sI x ls 10 (nI v)) (sI m 23 ib (nI v)) A B := by
  obtain ⟨h0, h1, h2, h3, h4, h5, h6, h7, h8, h9⟩ := h
  have hl := land_o h0.1
  exact ⟨h0.c rfl (ge_n (by omega)) (fun r j hr _ => ge_n (by have := roll_o hr; omega)), h1.c ⟨rfl, rfl⟩ (fun o k _ _ => ge_n (by omega)) (fun o k _ => ge_n (by omega)) (fun k => rfl), h2.c ⟨rfl, rfl⟩ (fun o k _ _ => ge_n (by omega)) (fun o k _ => ge_n (by omega)) (fun k => rfl), h3.c rfl (fun o k _ _ => ge_n (by omega)) (fun o k _ => ge_n (by omega)), h4.c ⟨rfl, rfl⟩ (fun o k _ _ => ge_n (by omega)) (fun o k _ => ge_n (by omega)) (fun k => rfl), h5.c (fun k => ge_n (by omega)) (fun k => ge_n (by omega)), h6.c (fun k => ge_n (by omega)) (fun k => ge_n (by omega)), h7.c ⟨rfl, rfl⟩ (fun k => ge_n (by omega)) (fun k => ge_n (by omega)), ⟨v, hv, ge_s, ge_s⟩, h9.c rfl (fun o k _ => ge_n (by omega)) (fun o k _ => ge_n (by omega))⟩
/-- two words behind: a letter, a number -/
theorem twoB {c a e v : Nat} {l : List Nat} (hT : TS t n p c a e l v x m) (hc : c ≠ 302) (hP : RP ls ib L x m A B) {lo : Nat} (hlo : lo ≤ 1) (fX : Nat → Nat) (oM : Nat) (hX : fX ls = ls + 16 ∨ fX ls = ls + 17) (hM : wd oM = 26) (hoM : oM ≠ 1 ∧ oM ≠ 0)
    (hR : ∀ k v x' m', k < 26 → lo ≤ v → v ≤ 99 → RP ls ib L x' m' A B → RP ls ib L (sI x' (fX ls) k (nI v)) (sI m' oM (26 * ib + k) (nI v)) A B) (hA : A ≤ p) (hB : B ≤ p) :
    ∃ b x' m', ((f_X6_skip x).bind fun q7 => (f_X5_oneLetter q7.2).bind fun q8 => if q8.1 = 0 then (some ((0 : Int32), q8.2)) else (ltt (gI q8.2 5 2) fun w9 => (f_X5_number (nI lo) (99 : Int32) q8.2).bind fun q10 => if q10.1 = 0 then (some ((0 : Int32), q10.2)) else (ltt (gR q10.2 5 1) fun g11 => if landB g11 = true then (if inb w9 26 = true then (ltt (sI q10.2 (fX g11) (ix w9) (gI q10.2 5 2)) fun σ12 => some ((1 : Int32), σ12)) else none) else none))) = some (bi b, x') ∧
    ((f_X11_counts (0 : Int32) m).bind fun q5 => if q5.1 = 0 then (some ((), q5.2)) else ((f_X11_oneLetter q5.2).bind fun q6 => (f_X11_number (nI lo) (99 : Int32) q6.2).bind fun q7 => if (gI q7.2 0 8) = 0 then (if inb (((26 : Int32) * (gI q7.2 0 38)) + q6.1) 52 = true then (ltt (sI q7.2 oM (ix (((26 : Int32) * (gI q7.2 0 38)) + q6.1)) q7.1) fun σ8 => some ((), σ8)) else none) else (some ((), q7.2)))) = some ((), m') ∧ StOK t n p ls ib b x m x' m' := by
  obtain ⟨m1, a1, a2, a3, a4, p1, a5, a6⟩ := cntB hT hc
  obtain ⟨b1, x2, m2, w2, c1, c2, ⟨c3, c4, c5, c6⟩, c7⟩ := letB a6
  have hl := land_o hP.1.1
  have hib := hP.1.2.1
  rw [a1, a2]
  dsimp only [Option.bind]
  rw [c1]
  dsimp only
  by_cases f1 : gI m1 0 8 = 0
  · rw [decide_eq_true f1, if_neg (show ¬ bi true = 0 by decide), c2]
    dsimp only
    rcases c6 with ⟨rfl, p2, c8, c9⟩ | ⟨rfl, c8⟩
    · obtain ⟨k, k1, k2, k3⟩ := c7 rfl
      obtain ⟨b3, x3, m3, w3, d1, d2, ⟨d3, d4, d5, d6⟩, d7⟩ := numB c9 (lo := lo) (hi := 99) (by omega) (by omega)
      rw [if_neg (show ¬ bi true = 0 by decide)]
      dsimp only [ltt]
      rw [show (99 : Int32) = nI 99 from rfl, d1, d2, k2, k3]
      dsimp only
      rcases d6 with ⟨rfl, p3, d8, d9⟩ | ⟨rfl, d8⟩
      · obtain ⟨v', v1, v2, v3, v4⟩ := d7 rfl
        have hP3 : RP ls ib L x3 m3 A B := ((hP.t a3 a4).t c3 c4).t d3 d4
        have g51 := hP3.1.2.2.1
        have g38 := hP3.1.2.2.2.1
        rw [if_neg (show ¬ bi true = 0 by decide), g51, if_pos (landB_of hP.1.1), if_pos (inb_nI k1 (by omega)), ix_nI (by omega), v3, v4, g38, show (26 : Int32) = nI 26 from rfl, pk_mul, nI_add, if_pos (inb_nI (by omega) (by omega)), ix_nI (by omega)]
        have hFL : FL ls ib x m x3 m3 := (FL.t a3 a4).tr ((FL.t c3 c4).tr (FL.t d3 d4))
        by_cases f3 : gI m3 0 8 = 0
        · rw [if_pos f3]
          refine ⟨true, _, _, rfl, rfl, hFL.tr ((FL.sx (by omega) (by omega)).tr (FL.sm (.inr (by rw [hM]; omega)))), .inl ⟨rfl, p3, by omega, d9.c (S3.s (by omega)) (S0.s (by omega)), fun _ => ⟨L, A, B, by omega, by omega, hR k v' x3 m3 k1 v1 v2 hP3⟩⟩⟩
        · rw [if_neg f3]
          refine ⟨true, _, _, rfl, rfl, hFL.tr (FL.sx (by omega) (by omega)), .inl ⟨rfl, p3, by omega, d9.c (S3.s (by omega)) (S0.rf _), fun q => absurd q f3⟩⟩
      · rw [if_pos (show bi false = 0 from rfl), if_neg d8.f.1]
        exact ⟨false, _, _, rfl, rfl, (FL.t a3 a4).tr ((FL.t c3 c4).tr (FL.t d3 d4)), .inr ⟨rfl, d8⟩⟩
    · rw [if_pos (show bi false = 0 from rfl), num_f c8.f.2.1]
      dsimp only
      rw [if_neg c8.f.1]
      exact ⟨false, _, _, rfl, rfl, (FL.t a3 a4).tr (FL.t c3 c4), .inr ⟨rfl, c8⟩⟩
  · obtain ⟨rfl, rfl⟩ := c5 f1
    have c8 := c6.resolve_left (fun q => by cases q.1)
    rw [decide_eq_false f1, if_pos (show bi false = 0 from rfl), if_pos (show bi false = 0 from rfl)]
    exact ⟨false, _, _, rfl, rfl, (FL.t a3 a4).tr (FL.t c3 c4), .inr ⟨rfl, c8.2⟩⟩
theorem stLetter {c a e v : Nat} {l : List Nat} (hT : TS t n p c a e l v x m) (hc : c ≠ 302) (hP : RP ls ib L x m A B) (hA : A ≤ p) (hB : B ≤ p) : ∃ b x' m', f_X5_letterOunces x = some (bi b, x') ∧ f_X11_weighs m = some ((), m') ∧ StOK t n p ls ib b x m x' m' := by
  rw [e_X5_letterOunces, e_X11_weighs]
  exact twoB hT hc hP (lo := 1) (by omega) (fun g => g + 16) 2 (by omega) rfl (by omega) (fun k v x' m' h1 h2 h3 h4 => h4.oz h1 ⟨h2, h3⟩) hA hB
theorem stHeap {c a e v : Nat} {l : List Nat} (hT : TS t n p c a e l v x m) (hc : c ≠ 302) (hP : RP ls ib L x m A B) (hA : A ≤ p) (hB : B ≤ p) : ∃ b x' m', f_X5_heapLetters x = some (bi b, x') ∧ f_X11_heaping m = some ((), m') ∧ StOK t n p ls ib b x m x' m' := by
  rw [e_X5_heapLetters, e_X11_heaping]
  exact twoB hT hc hP (lo := 0) (by omega) (fun g => g + 17) 12 (by omega) rfl (by omega) (fun k v x' m' h1 h2 h3 h4 => h4.hp h1 h3) hA hB
theorem stYear {c a e v : Nat} {l : List Nat} (hT : TS t n p c a e l v x m) (hc : c ≠ 302) (hP : RP ls ib L x m A B) (hA : A ≤ p) (hB : B ≤ p) : ∃ b x' m', f_X5_yearNow x = some (bi b, x') ∧ f_X11_dating m = some ((), m') ∧ StOK t n p ls ib b x m x' m' := by
  obtain ⟨m1, a1, a2, a3, a4, p1, a5, a6⟩ := cntB hT hc
  obtain ⟨b3, x3, m3, w3, d1, d2, ⟨d3, d4, d5, d6⟩, d7⟩ := numB a6 (lo := 0) (hi := 99) (by omega) (by omega)
  have hl := land_o hP.1.1
  have hib := hP.1.2.1
  have hP3 : RP ls ib L x3 m3 A B := (hP.t a3 a4).t d3 d4
  have hP1 : RP ls ib L (sI x 3 7 0) m1 A B := hP.t a3 a4
  have hFL : FL ls ib x m x3 m3 := (FL.t a3 a4).tr (FL.t d3 d4)
  rw [e_X5_yearNow, e_X11_dating, a1, a2]
  dsimp only [Option.bind]
  rw [show f_X5_number (0 : Int32) (99 : Int32) (sI x 3 7 0) = some (bi b3, x3) from d1]
  dsimp only
  by_cases f1 : gI m1 0 8 = 0
  · rw [decide_eq_true f1, if_neg (show ¬ bi true = 0 by decide), show f_X11_number (0 : Int32) (99 : Int32) m1 = some (w3, m3) from d2]
    dsimp only
    rw [hP1.1.2.2.2.1, if_pos (bk_ix hib).1, (bk_ix hib).2]
    dsimp only [ltt]
    rcases d6 with ⟨rfl, p3, d8, d9⟩ | ⟨rfl, d8⟩
    · obtain ⟨v', v1, v2, v3, v4⟩ := d7 rfl
      rw [if_neg (show ¬ bi true = 0 by decide), hP3.1.2.2.1, if_pos (landB_of hP.1.1), v3, v4]
      exact ⟨true, _, _, rfl, rfl, hFL.tr ((FL.sx (by omega) (by omega)).tr (FL.sm (.inr (by show 1 * ib ≤ ib ∧ ib < 1 * ib + 1; omega)))), .inl ⟨rfl, p3, by omega, d9.c (S3.s (by omega)) (S0.s (by omega)), fun _ => ⟨L, A, B, by omega, by omega, hP3.yr v2⟩⟩⟩
    · rw [if_pos (show bi false = 0 from rfl)]
      exact ⟨false, _, _, rfl, rfl, hFL.tr (FL.sm (.inr (by show 1 * ib ≤ ib ∧ ib < 1 * ib + 1; omega))), .inr ⟨rfl, d8.c (S3.rf _) (S0.s (by omega))⟩⟩
  · obtain ⟨rfl, rfl⟩ := d5 f1
    have c8 := d6.resolve_left (fun q => by cases q.1)
    rw [decide_eq_false f1, if_pos (show bi false = 0 from rfl), if_pos (show bi false = 0 from rfl)]
    exact ⟨false, _, _, rfl, rfl, hFL, .inr ⟨rfl, c8.2⟩⟩
end St1
