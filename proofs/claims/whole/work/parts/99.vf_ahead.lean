/-! ===== words and numbers of the text, there ===== -/
section Lk
variable {t : Nat → Nat} {n : Nat}
def FtL (most a i : Nat) (u σ : St) : Prop := (gI u 0 8 = 1 → gI σ 0 8 = 1 ∧ gI σ 0 9 = gI u 0 9) ∧ (gI u 0 8 = 0 → (i ≤ most → gI σ 0 8 = 0) ∧ (most < i → gI σ 0 8 = 1 ∧ gI σ 0 9 = nI (a + most)))
def PW (t : Nat → Nat) (a : Nat) (u : St) (i : Nat) (σ : St) : Prop := TM u σ ∧ gI σ 0 3 = gI u 0 3 ∧ gI σ 0 4 = gI u 0 4 ∧ gL σ 0 7 = lN (pk8 (nmL t a (min i 6))) ∧ FtL 6 a i u σ
def PN (t : Nat → Nat) (a : Nat) (u : St) (i : Nat) (σ : St) : Prop := TM u σ ∧ gI σ 0 3 = gI u 0 3 ∧ gI σ 0 4 = gI u 0 4 ∧ gI σ 0 6 = nI (nuN t a (min i 4)) ∧ FtL 4 a i u σ
/-- the blame of one letter or digit too many -/
theorem many_b {most a i : Nat} {u σ : St} (h01 : gI u 0 8 = 0 ∨ gI u 0 8 = 1) (hm : most < 100) (hi : i < 2000) (h : FtL most a i u σ) : ∃ σ', (if nI i = nI most then f_X11_blame 1 (nI (a + i)) σ else some ((), σ)) = some ((), σ') ∧ FtL most a (i + 1) u σ' ∧ TM σ σ' ∧ gI σ' 0 3 = gI σ 0 3 ∧ gI σ' 0 4 = gI σ 0 4 ∧ gI σ' 0 6 = gI σ 0 6 ∧ (∀ k, gL σ' 0 k = gL σ 0 k) := by
  by_cases c : i = most
  · subst c
    rw [if_pos rfl]
    rcases h01 with h0 | h1
    · have e8 := (h.2 h0).1 (by omega)
      refine ⟨_, blame_0 e8, ⟨fun e => by rw [h0] at e; exact absurd e (by decide), fun _ => ⟨fun e => by omega, fun _ => ⟨?_, ge_s⟩⟩⟩, (TM.s (by decide)).tr (TM.s (by decide)), ?_, ?_, ?_, fun k => rfl⟩
      · rw [ge_n (by decide), ge_s]
      · rw [ge_n (by decide), ge_n (by decide)]
      · rw [ge_n (by decide), ge_n (by decide)]
      · rw [ge_n (by decide), ge_n (by decide)]
    · have e8 := h.1 h1
      exact ⟨σ, blame_1 (j := 1) (by decide) e8.1, ⟨fun _ => e8, fun e => by rw [h1] at e; exact absurd e (by decide)⟩, TM.rf _, rfl, rfl, rfl, fun _ => rfl⟩
  · rw [if_neg (fun e => c ((nI_eq (by omega) (by omega)).mp e))]
    exact ⟨σ, rfl, ⟨h.1, fun e => ⟨fun q => (h.2 e).1 (by omega), fun q => (h.2 e).2 (by omega)⟩⟩, TM.rf _, rfl, rfl, rfl, fun _ => rfl⟩
theorem FtL.c {most a i : Nat} {u σ σ' : St} (h : FtL most a i u σ) (e8 : gI σ' 0 8 = gI σ 0 8) (e9 : gI σ' 0 9 = gI σ 0 9) : FtL most a i u σ' := by
  unfold FtL; rw [e8, e9]; exact h
theorem ahW {u : St} (ht : TpM t u) (hb : ∀ i, t i < 256) (hn : n ≤ 1600) (e2 : gI u 0 2 = nI n) (h01 : gI u 0 8 = 0 ∨ gI u 0 8 = 1) (e7 : gL u 0 7 = 0) {a w : Nat} (hr : Run let1 t n a w) : ∃ σ, f_X11_ahead_200 FU (nI a) 1 0 6 0 u = some ((), sI σ 0 5 (nI w)) ∧ PW t a u (w - a) σ := by
  obtain ⟨r1, r2, r3, r4⟩ := hr
  have key := loop_exF (fun n σ i => f_X11_ahead_200 n (nI (a + i)) 1 0 6 (nI i) σ) (fun σ => some ((), sI σ 0 5 (nI w))) (w - a) (by omega) (PW t a u)
    (fun N σ hP => by
      obtain ⟨hT, -⟩ := hP
      have hw : a + (w - a) = w := by omega
      rw [hw, e_X11_ahead_200, show gI σ 0 2 = nI n from (hT.1 0 2 (by omega)).trans e2]
      by_cases c : n ≤ w
      · rw [if_pos (nI_le c (by omega))]; rfl
      · rw [if_neg (nI_ge (by omega) (by omega)), if_neg (by decide), if_pos (inb_nI (by omega) (by omega)), ix_nI (by omega), ht.c hT w (by omega), let_M (hb w), r4 (by omega)]
        dsimp only [Option.bind]
        rw [if_pos (show bi false = 0 from rfl)]; rfl)
    (fun N σ i hi hP => by
      obtain ⟨hT, h3, h4, h7, hF⟩ := hP
      obtain ⟨σ', hσ, hF', hT', h3', h4', -, hL⟩ := many_b (most := 6) (a := a) h01 (by omega) (by omega) hF
      rw [e_X11_ahead_200, show gI σ 0 2 = nI n from (hT.1 0 2 (by omega)).trans e2, if_neg (nI_ge (by omega) (by omega)), if_neg (by decide), if_pos (inb_nI (by omega) (by omega)), ix_nI (by omega), ht.c hT _ (by omega), let_M (hb _), r3 (a + i) (by omega) (by omega)]
      rw [Option.bind_some]
      dsimp only
      rw [if_neg (show ¬ bi true = 0 by decide)]
      have e : (if nI i = 6 then ((f_X11_blame 1 (nI (a + i)) σ).bind fun q15 => f_X11_ahead_252 (f_X11_ahead_200 N) (nI (a + i)) 1 0 6 (nI i) q15.2) else f_X11_ahead_252 (f_X11_ahead_200 N) (nI (a + i)) 1 0 6 (nI i) σ) = f_X11_ahead_252 (f_X11_ahead_200 N) (nI (a + i)) 1 0 6 (nI i) σ' := by
        by_cases c : nI i = (6 : Int32)
        · rw [if_pos (show nI i = nI _ from c)] at hσ
          rw [if_pos c, hσ]; rfl
        · rw [if_neg (show ¬ nI i = nI _ from c)] at hσ
          rw [if_neg c]
          injection hσ with hσ; injection hσ with _ hσ; rw [hσ]
      refine (fun (g : ∃ a', f_X11_ahead_252 (f_X11_ahead_200 N) (nI (a + i)) 1 0 6 (nI i) σ' = f_X11_ahead_200 N (nI (a + (i + 1))) 1 0 6 (nI (i + 1)) a' ∧ PW t a u (i + 1) a') => g.elim fun a' ha => ⟨a', e.trans ha.1, ha.2⟩) ?_
      rw [e_X11_ahead_252, nI_1, nI_1, show a + i + 1 = a + (i + 1) by omega]
      by_cases c : 6 ≤ i
      · rw [if_pos (show (6 : Int32) ≤ nI i from nI_le (a := 6) c (by omega)), if_pos (show (6 : Int32) ≤ nI i from nI_le (a := 6) c (by omega))]
        refine ⟨σ', rfl, hT.tr hT', h3'.trans h3, h4'.trans h4, ?_, hF'⟩
        rw [hL 7, h7, show min i 6 = min (i + 1) 6 by omega]
      · have hlt := hb (a + i)
        have hlet := r3 (a + i) (by omega) (by omega)
        simp only [let1, Bool.and_eq_true, decide_eq_true_eq] at hlet
        have hmi : min i 6 = i := by omega
        have hmi' : min (i + 1) 6 = i + 1 := by omega
        have hlx : ∀ c ∈ nmL t a i, c < 26 := nmL_lt (fun j hj => r3 (a + j) (by omega) (by omega))
        have h40 : pk8 (nmL t a i) < 2 ^ 40 := by
          have := pk8_lt hlx
          rw [nmL_len] at this
          calc pk8 (nmL t a i) < 256 ^ i := this
            _ ≤ 256 ^ 5 := Nat.pow_le_pow_right (by omega) (by omega)
            _ = 2 ^ 40 := by decide
        rw [if_neg (show ¬ (6 : Int32) ≤ nI i from nI_ge (b := 6) (by omega) (by omega)), if_neg (show ¬ (1 : Int32) = 0 by decide), if_pos (inb_nI (by omega) (by omega)), ix_nI (by omega)]
        dsimp only [ltt]
        rw [if_neg (show ¬ (6 : Int32) ≤ nI i from nI_ge (b := 6) (by omega) (by omega)), if_pos rfl, hL 7, h7, hmi, show gI σ' 1 (a + i) = nI (t (a + i)) from ht.c (hT.tr hT') _ (by omega), nI_l (by omega), or64 h40 hlt]
        refine ⟨_, rfl, (hT.tr hT').tr TM.l, h3'.trans h3, h4'.trans h4, ?_, hF'⟩
        rw [gL_sL, if_pos ⟨rfl, rfl⟩, hmi', nmL, pk8_app, show t (a + i) - 97 + 97 = t (a + i) by omega])
    u ⟨TM.rf _, rfl, rfl, e7, fun e => ⟨e, rfl⟩, fun e => ⟨fun _ => e, fun q => by omega⟩⟩
  obtain ⟨σ, h1, h2⟩ := key
  exact ⟨σ, h2, h1⟩
theorem ahN {u : St} (ht : TpM t u) (hb : ∀ i, t i < 256) (hn : n ≤ 1600) (e2 : gI u 0 2 = nI n) (h01 : gI u 0 8 = 0 ∨ gI u 0 8 = 1) (e6 : gI u 0 6 = 0) {a w : Nat} (hr : Run dig1 t n a w) : ∃ σ, f_X11_ahead_200 FU (nI a) 0 1 4 0 u = some ((), sI σ 0 5 (nI w)) ∧ PN t a u (w - a) σ := by
  obtain ⟨r1, r2, r3, r4⟩ := hr
  have key := loop_exF (fun n σ i => f_X11_ahead_200 n (nI (a + i)) 0 1 4 (nI i) σ) (fun σ => some ((), sI σ 0 5 (nI w))) (w - a) (by omega) (PN t a u)
    (fun N σ hP => by
      obtain ⟨hT, -⟩ := hP
      have hw : a + (w - a) = w := by omega
      rw [hw, e_X11_ahead_200, show gI σ 0 2 = nI n from (hT.1 0 2 (by omega)).trans e2]
      by_cases c : n ≤ w
      · rw [if_pos (nI_le c (by omega))]; rfl
      · rw [if_neg (nI_ge (by omega) (by omega)), if_pos rfl, if_pos (inb_nI (by omega) (by omega)), ix_nI (by omega), ht.c hT w (by omega), dig_M (hb w), r4 (by omega)]
        dsimp only [Option.bind]
        rw [if_pos (show bi false = 0 from rfl)]; rfl)
    (fun N σ i hi hP => by
      obtain ⟨hT, h3, h4, h6, hF⟩ := hP
      obtain ⟨σ', hσ, hF', hT', h3', h4', h6', hL⟩ := many_b (most := 4) (a := a) h01 (by omega) (by omega) hF
      rw [e_X11_ahead_200, show gI σ 0 2 = nI n from (hT.1 0 2 (by omega)).trans e2, if_neg (nI_ge (by omega) (by omega)), if_pos rfl, if_pos (inb_nI (by omega) (by omega)), ix_nI (by omega), ht.c hT _ (by omega), dig_M (hb _), r3 (a + i) (by omega) (by omega)]
      rw [Option.bind_some]
      dsimp only
      rw [if_neg (show ¬ bi true = 0 by decide)]
      have e : (if nI i = 4 then ((f_X11_blame 1 (nI (a + i)) σ).bind fun q15 => f_X11_ahead_252 (f_X11_ahead_200 N) (nI (a + i)) 0 1 4 (nI i) q15.2) else f_X11_ahead_252 (f_X11_ahead_200 N) (nI (a + i)) 0 1 4 (nI i) σ) = f_X11_ahead_252 (f_X11_ahead_200 N) (nI (a + i)) 0 1 4 (nI i) σ' := by
        by_cases c : nI i = (4 : Int32)
        · rw [if_pos (show nI i = nI _ from c)] at hσ
          rw [if_pos c, hσ]; rfl
        · rw [if_neg (show ¬ nI i = nI _ from c)] at hσ
          rw [if_neg c]
          injection hσ with hσ; injection hσ with _ hσ; rw [hσ]
      refine (fun (g : ∃ a', f_X11_ahead_252 (f_X11_ahead_200 N) (nI (a + i)) 0 1 4 (nI i) σ' = f_X11_ahead_200 N (nI (a + (i + 1))) 0 1 4 (nI (i + 1)) a' ∧ PN t a u (i + 1) a') => g.elim fun a' ha => ⟨a', e.trans ha.1, ha.2⟩) ?_
      rw [e_X11_ahead_252, nI_1, nI_1, show a + i + 1 = a + (i + 1) by omega]
      by_cases c : 4 ≤ i
      · rw [if_pos (show (4 : Int32) ≤ nI i from nI_le (a := 4) c (by omega)), if_pos (show (4 : Int32) ≤ nI i from nI_le (a := 4) c (by omega))]
        refine ⟨σ', rfl, hT.tr hT', h3'.trans h3, h4'.trans h4, ?_, hF'⟩
        rw [h6', h6, show min i 4 = min (i + 1) 4 by omega]
      · have hlt := hb (a + i)
        have hlet := r3 (a + i) (by omega) (by omega)
        simp only [dig1, Bool.and_eq_true, decide_eq_true_eq] at hlet
        have hmi : min i 4 = i := by omega
        have hmi' : min (i + 1) 4 = i + 1 := by omega
        rw [if_neg (show ¬ (4 : Int32) ≤ nI i from nI_ge (b := 4) (by omega) (by omega)), if_pos rfl, if_neg (show ¬ (4 : Int32) ≤ nI i from nI_ge (b := 4) (by omega) (by omega)), if_neg (show ¬ (1 : Int32) = 0 by decide), if_pos (inb_nI (by omega) (by omega)), ix_nI (by omega)]
        dsimp only [ltt]
        rw [h6', h6, hmi, show gI σ' 1 (a + i) = nI (t (a + i)) from ht.c (hT.tr hT') _ (by omega), show (10 : Int32) = nI 10 from rfl, show (48 : Int32) = nI 48 from rfl, pk_mul, nI_add, pk_sub (by omega)]
        refine ⟨_, rfl, (hT.tr hT').tr (TM.s (by decide)), ?_, ?_, ?_, hF'.c (ge_n (by decide)) (ge_n (by decide))⟩
        · rw [ge_n (by decide)]; exact h3'.trans h3
        · rw [ge_n (by decide)]; exact h4'.trans h4
        · rw [ge_s, hmi', nuN, Nat.mul_comm 10])
    u ⟨TM.rf _, rfl, rfl, e6, fun e => ⟨e, rfl⟩, fun e => ⟨fun _ => e, fun q => by omega⟩⟩
  obtain ⟨σ, h1, h2⟩ := key
  exact ⟨σ, h2, h1⟩
end Lk
