/-! ===== a look at a word or a number, here ===== -/
section Lk
variable {t : Nat → Nat} {n : Nat}
theorem b_or (b : Bool) : b = true ∨ b = false := by cases b <;> simp
theorem rdW_e {y : St} (ht : TpX t y) (hb : ∀ i, t i < 256) (hn : n ≤ 1600) (e2 : gI y 3 2 = nI n) {a w : Nat} (e4 : gI y 3 4 = nI a) (hr : Run let1 t n a w) (h6 : w - a ≤ 6) : ∀ d k N, k + d = w - a → d < N → f_X6_readWord_5 N (sW t y a k) = f_X6_readWord_104 FU (0 : Int32) (sW t y a (w - a)) := by
  obtain ⟨r1, r2, r3, r4⟩ := hr
  intro d
  induction d with
  | zero =>
    intro k N hk hN
    obtain ⟨N, rfl⟩ : ∃ k, N = k + 1 := ⟨N - 1, by omega⟩
    obtain rfl : k = w - a := by omega
    obtain ⟨s2, s3, -, s6, -, -, -, s1, -⟩ := sX_3 y (nI (pk5 (nmL t a (w - a)))) (nI (a + (w - a)))
    rw [e_X6_readWord_5, s3, s2, e2]
    by_cases c : n ≤ w
    · rw [if_pos (nI_le (by omega) (by omega))]
    · have q := r4 (by omega)
      rw [show w = a + (w - a) by omega] at q
      have hlt := hb (a + (w - a))
      simp only [let1, Bool.and_eq_false_iff, decide_eq_false_iff_not] at q
      rw [if_neg (nI_ge (by omega) (by omega)), if_pos (inb_nI (by omega) (by omega)), ix_nI (by omega), s1, ht.1 _ (by omega)]
      by_cases c1 : t (a + (w - a)) < 97
      · rw [if_pos (show nI (t (a + (w - a))) < (97 : Int32) from nI_lt (b := 97) c1 (by omega))]
      · rw [if_neg (show ¬ nI (t (a + (w - a))) < (97 : Int32) from nI_nlt (b := 97) (by omega) (by omega)), if_pos (inb_nI (by omega) (by omega)), if_pos (show (122 : Int32) < nI (t (a + (w - a))) from nI_lt (a := 122) (by omega) (by omega))]
  | succ d ih =>
    intro k N hk hN
    obtain ⟨N, rfl⟩ : ∃ k, N = k + 1 := ⟨N - 1, by omega⟩
    rw [rdW_s ht hb hn e2 e4 (by omega) (fun i hi => r3 (a + i) (by omega) (by omega)) (by omega), ih (k + 1) N (by omega) (by omega)]
theorem rdW_f {y : St} (ht : TpX t y) (hb : ∀ i, t i < 256) (hn : n ≤ 1600) (e2 : gI y 3 2 = nI n) {a w : Nat} (e4 : gI y 3 4 = nI a) (hr : Run let1 t n a w) (h6 : a + 6 < w) : ∀ d k N, k + d = 6 → d < N → f_X6_readWord_5 N (sW t y a k) = some (0, sW t y a 6) := by
  obtain ⟨r1, r2, r3, r4⟩ := hr
  intro d
  induction d with
  | zero =>
    intro k N hk hN
    obtain ⟨N, rfl⟩ : ∃ k, N = k + 1 := ⟨N - 1, by omega⟩
    obtain rfl : k = 6 := by omega
    obtain ⟨s2, s3, s4, s6, -, s8, -, s1, -⟩ := sX_3 y (nI (pk5 (nmL t a 6))) (nI (a + 6))
    have hL := r3 (a + 6) (by omega) (by omega)
    have hlt := hb (a + 6)
    simp only [let1, Bool.and_eq_true, decide_eq_true_eq] at hL
    rw [e_X6_readWord_5]
    dsimp only [ltt]
    rw [s3, s2, e2, s4, e4, nI_df, if_neg (nI_ge (by omega) (by omega)), if_pos (inb_nI (by omega) (by omega)), ix_nI (by omega), s1, ht.1 _ (by omega), if_neg (show ¬ nI (t (a + 6)) < (97 : Int32) from nI_nlt (b := 97) (by omega) (by omega)), if_pos (inb_nI (by omega) (by omega)), if_neg (show ¬ (122 : Int32) < nI (t (a + 6)) from nI_nlt (a := 122) (by omega) (by omega)), if_neg (show ¬ nI 6 < (6 : Int32) by decide)]
  | succ d ih =>
    intro k N hk hN
    obtain ⟨N, rfl⟩ : ∃ k, N = k + 1 := ⟨N - 1, by omega⟩
    rw [rdW_s ht hb hn e2 e4 (by omega) (fun i hi => r3 (a + i) (by omega) (by omega)) (by omega), ih (k + 1) N (by omega) (by omega)]
theorem rdW_0 {y : St} {a : Nat} (e3 : gI y 3 3 = nI a) : sI y 3 6 0 = sW t y a 0 := by
  show _ = sI (sI y 3 6 0) 3 3 (nI a)
  exact (sI_id (by rw [ge_n (by decide)]; exact e3)).symm
theorem rdW_g {y : St} {a : Nat} (e3 : gI y 3 3 = nI a) : f_X6_readWord y = f_X6_readWord_5 FU (sW t y a 0) := by
  rw [e_X6_readWord]
  dsimp only [ltt]
  rw [rdW_0 (t := t) e3]
theorem l162W_1 {y : St} (h : gI y 3 5 = 300) : f_X6_look_162 1 y = f_X6_look_245 0 y := by
  rw [e_X6_look_162, h, if_pos rfl, if_neg (by decide)]
theorem l162W_0 {y y' : St} {b : Bool} (h : gI y 3 5 = 300) (e : f_X6_readWord y = some (bi b, y')) : f_X6_look_162 0 y = f_X6_look_245 (bi b) y' := by
  rw [e_X6_look_162, h, if_pos rfl, if_pos rfl, e]
  dsimp only [Option.bind]
  cases b
  · rw [if_pos (show bi false = 0 from rfl)]; rfl
  · rw [if_neg (show ¬ bi true = 0 by decide)]; rfl
theorem lookW_p {σ : St} (ht : TpX t σ) (hb : ∀ i, t i < 256) (hn : n ≤ 1600) (e2 : gI σ 3 2 = nI n) {p a : Nat} (e3 : gI σ 3 3 = nI p) (e7 : gI σ 3 7 = 0) (e8 : gI σ 3 8 = 0) (hr : Run bl1 t n p a) (ha : a < n) (hl : let1 (t a) = true) (h0 : 0 < a) (hq : dig1 (t (a - 1)) = true) : ∃ x1, f_X6_look σ = some (303, x1) ∧ TX σ x1 ∧ gI x1 5 2 = gI σ 5 2 ∧ XF a x1 := by
  obtain ⟨k2, k3, k4, k7, k8, k5, kc⟩ := yK_3 σ a 300
  refine ⟨sI (sI (yK σ a 300) 3 8 1) 3 9 (nI a), ?_, ((yK_t σ a 300).tr (TX.s3 (by decide))).tr (TX.s3 (by decide)), (ge_n (by decide)).trans ((ge_n (by decide)).trans k5), (ge_n (by decide)).trans ge_s, ge_s⟩
  rw [look_at ht hb hn e2 e3 e7 e8 hr ha, kd_l hl, glu_1 h0 (.inr hq), show bi true = (1 : Int32) from rfl, l162W_1 kc, l245_0 (k8.trans e8), k3]
theorem lookW_f {σ : St} (ht : TpX t σ) (hb : ∀ i, t i < 256) (hn : n ≤ 1600) (e2 : gI σ 3 2 = nI n) {p a w : Nat} (e3 : gI σ 3 3 = nI p) (e7 : gI σ 3 7 = 0) (e8 : gI σ 3 8 = 0) (hr : Run bl1 t n p a) (hw : Run let1 t n a w) (hq : glu t a = false) (h6 : a + 6 < w) : ∃ x1, f_X6_look σ = some (303, x1) ∧ TX σ x1 ∧ gI x1 5 2 = gI σ 5 2 ∧ XF (a + 6) x1 := by
  obtain ⟨k2, k3, k4, k7, k8, k5, kc⟩ := yK_3 σ a 300
  have hy := ht.c (yK_t σ a 300)
  have hw2 := hw.2.1
  have hl := hw.2.2.1 a (by omega) (by omega)
  obtain ⟨s2, s3, s4, s6, s7, s8, s5, s1, -⟩ := sX_3 (yK σ a 300) (nI (pk5 (nmL t a 6))) (nI (a + 6))
  have hT : TX (yK σ a 300) (sW t (yK σ a 300) a 6) := (TX.s3 (by decide)).tr (TX.s3 (by decide))
  refine ⟨sI (sI (sW t (yK σ a 300) a 6) 3 8 1) 3 9 (nI (a + 6)), ?_, (((yK_t σ a 300).tr hT).tr (TX.s3 (by decide))).tr (TX.s3 (by decide)), (ge_n (by decide)).trans ((ge_n (by decide)).trans (s5.trans k5)), (ge_n (by decide)).trans ge_s, ge_s⟩
  have e : f_X6_readWord (yK σ a 300) = some (bi false, sW t (yK σ a 300) a 6) := by
    rw [rdW_g (t := t) k3]
    exact rdW_f (y := yK σ a 300) hy hb hn (k2.trans e2) k4 hw h6 6 0 FU (by omega) (by rw [FU_eq]; omega)
  rw [look_at ht hb hn e2 e3 e7 e8 hr (by omega), kd_l hl, hq, show bi false = (0 : Int32) from rfl, l162W_0 kc e, show bi false = (0 : Int32) from rfl, l245_0 (s8.trans (k8.trans e8)), s3]
theorem rdN_e {y : St} (ht : TpX t y) (hb : ∀ i, t i < 256) (hn : n ≤ 1600) (e2 : gI y 3 2 = nI n) {a w : Nat} (e4 : gI y 3 4 = nI a) (hr : Run dig1 t n a w) (h6 : w - a ≤ 4) : ∀ d k N, k + d = w - a → d < N → f_X6_readNumber_5 N (sN t y a k) = some (1, sN t y a (w - a)) := by
  obtain ⟨r1, r2, r3, r4⟩ := hr
  intro d
  induction d with
  | zero =>
    intro k N hk hN
    obtain ⟨N, rfl⟩ : ∃ k, N = k + 1 := ⟨N - 1, by omega⟩
    obtain rfl : k = w - a := by omega
    obtain ⟨s2, s3, -, s6, -, -, -, s1, -⟩ := sX_3 y (nI (nuN t a (w - a))) (nI (a + (w - a)))
    rw [e_X6_readNumber_5, s3, s2, e2]
    by_cases c : n ≤ w
    · rw [if_pos (nI_le (by omega) (by omega))]
    · have q := r4 (by omega)
      rw [show w = a + (w - a) by omega] at q
      have hlt := hb (a + (w - a))
      simp only [dig1, Bool.and_eq_false_iff, decide_eq_false_iff_not] at q
      rw [if_neg (nI_ge (by omega) (by omega)), if_pos (inb_nI (by omega) (by omega)), ix_nI (by omega), s1, ht.1 _ (by omega)]
      by_cases c1 : t (a + (w - a)) < 48
      · rw [if_pos (show nI (t (a + (w - a))) < (48 : Int32) from nI_lt (b := 48) c1 (by omega))]
      · rw [if_neg (show ¬ nI (t (a + (w - a))) < (48 : Int32) from nI_nlt (b := 48) (by omega) (by omega)), if_pos (inb_nI (by omega) (by omega)), if_pos (show (57 : Int32) < nI (t (a + (w - a))) from nI_lt (a := 57) (by omega) (by omega))]
  | succ d ih =>
    intro k N hk hN
    obtain ⟨N, rfl⟩ : ∃ k, N = k + 1 := ⟨N - 1, by omega⟩
    rw [rdN_s ht hb hn e2 e4 (by omega) (fun i hi => r3 (a + i) (by omega) (by omega)) (by omega), ih (k + 1) N (by omega) (by omega)]
theorem rdN_f {y : St} (ht : TpX t y) (hb : ∀ i, t i < 256) (hn : n ≤ 1600) (e2 : gI y 3 2 = nI n) {a w : Nat} (e4 : gI y 3 4 = nI a) (hr : Run dig1 t n a w) (h6 : a + 4 < w) : ∀ d k N, k + d = 4 → d < N → f_X6_readNumber_5 N (sN t y a k) = some (0, sN t y a 4) := by
  obtain ⟨r1, r2, r3, r4⟩ := hr
  intro d
  induction d with
  | zero =>
    intro k N hk hN
    obtain ⟨N, rfl⟩ : ∃ k, N = k + 1 := ⟨N - 1, by omega⟩
    obtain rfl : k = 4 := by omega
    obtain ⟨s2, s3, s4, s6, -, s8, -, s1, -⟩ := sX_3 y (nI (nuN t a 4)) (nI (a + 4))
    have hL := r3 (a + 4) (by omega) (by omega)
    have hlt := hb (a + 4)
    simp only [dig1, Bool.and_eq_true, decide_eq_true_eq] at hL
    rw [e_X6_readNumber_5]
    dsimp only [ltt]
    rw [s3, s2, e2, s4, e4, nI_df, if_neg (nI_ge (by omega) (by omega)), if_pos (inb_nI (by omega) (by omega)), ix_nI (by omega), s1, ht.1 _ (by omega), if_neg (show ¬ nI (t (a + 4)) < (48 : Int32) from nI_nlt (b := 48) (by omega) (by omega)), if_pos (inb_nI (by omega) (by omega)), if_neg (show ¬ (57 : Int32) < nI (t (a + 4)) from nI_nlt (a := 57) (by omega) (by omega)), if_neg (show ¬ nI 4 < (4 : Int32) by decide)]
  | succ d ih =>
    intro k N hk hN
    obtain ⟨N, rfl⟩ : ∃ k, N = k + 1 := ⟨N - 1, by omega⟩
    rw [rdN_s ht hb hn e2 e4 (by omega) (fun i hi => r3 (a + i) (by omega) (by omega)) (by omega), ih (k + 1) N (by omega) (by omega)]
theorem rdN_0 {y : St} {a : Nat} (e3 : gI y 3 3 = nI a) : sI y 3 6 0 = sN t y a 0 := by
  show _ = sI (sI y 3 6 0) 3 3 (nI a)
  exact (sI_id (by rw [ge_n (by decide)]; exact e3)).symm
theorem rdN_g {y : St} {a : Nat} (e3 : gI y 3 3 = nI a) : f_X6_readNumber y = f_X6_readNumber_5 FU (sN t y a 0) := by
  rw [e_X6_readNumber]
  dsimp only [ltt]
  rw [rdN_0 (t := t) e3]
theorem l162N_1 {y : St} (h : gI y 3 5 = 301) : f_X6_look_162 1 y = f_X6_look_245 0 y := by
  rw [e_X6_look_162, h, if_neg (by decide), if_pos rfl, if_neg (by decide)]
theorem l162N_0 {y y' : St} {b : Bool} (h : gI y 3 5 = 301) (e : f_X6_readNumber y = some (bi b, y')) : f_X6_look_162 0 y = f_X6_look_245 (bi b) y' := by
  rw [e_X6_look_162, h, if_neg (by decide), if_pos rfl, if_pos rfl, e]
  dsimp only [Option.bind]
  cases b
  · rw [if_pos (show bi false = 0 from rfl)]; rfl
  · rw [if_neg (show ¬ bi true = 0 by decide)]; rfl
theorem lookN_p {σ : St} (ht : TpX t σ) (hb : ∀ i, t i < 256) (hn : n ≤ 1600) (e2 : gI σ 3 2 = nI n) {p a : Nat} (e3 : gI σ 3 3 = nI p) (e7 : gI σ 3 7 = 0) (e8 : gI σ 3 8 = 0) (hr : Run bl1 t n p a) (ha : a < n) (hl : dig1 (t a) = true) (h0 : 0 < a) (hq : let1 (t (a - 1)) = true) : ∃ x1, f_X6_look σ = some (303, x1) ∧ TX σ x1 ∧ gI x1 5 2 = gI σ 5 2 ∧ XF a x1 := by
  obtain ⟨k2, k3, k4, k7, k8, k5, kc⟩ := yK_3 σ a 301
  refine ⟨sI (sI (yK σ a 301) 3 8 1) 3 9 (nI a), ?_, ((yK_t σ a 301).tr (TX.s3 (by decide))).tr (TX.s3 (by decide)), (ge_n (by decide)).trans ((ge_n (by decide)).trans k5), (ge_n (by decide)).trans ge_s, ge_s⟩
  rw [look_at ht hb hn e2 e3 e7 e8 hr ha, kd_d ((b_or _).resolve_left (fun z => not_both _ ⟨z, hl⟩)) hl, glu_1 h0 (.inl hq), show bi true = (1 : Int32) from rfl, l162N_1 kc, l245_0 (k8.trans e8), k3]
theorem lookN_f {σ : St} (ht : TpX t σ) (hb : ∀ i, t i < 256) (hn : n ≤ 1600) (e2 : gI σ 3 2 = nI n) {p a w : Nat} (e3 : gI σ 3 3 = nI p) (e7 : gI σ 3 7 = 0) (e8 : gI σ 3 8 = 0) (hr : Run bl1 t n p a) (hw : Run dig1 t n a w) (hq : glu t a = false) (h6 : a + 4 < w) : ∃ x1, f_X6_look σ = some (303, x1) ∧ TX σ x1 ∧ gI x1 5 2 = gI σ 5 2 ∧ XF (a + 4) x1 := by
  obtain ⟨k2, k3, k4, k7, k8, k5, kc⟩ := yK_3 σ a 301
  have hy := ht.c (yK_t σ a 301)
  have hw2 := hw.2.1
  have hl := hw.2.2.1 a (by omega) (by omega)
  obtain ⟨s2, s3, s4, s6, s7, s8, s5, s1, -⟩ := sX_3 (yK σ a 301) (nI (nuN t a 4)) (nI (a + 4))
  have hT : TX (yK σ a 301) (sN t (yK σ a 301) a 4) := (TX.s3 (by decide)).tr (TX.s3 (by decide))
  refine ⟨sI (sI (sN t (yK σ a 301) a 4) 3 8 1) 3 9 (nI (a + 4)), ?_, (((yK_t σ a 301).tr hT).tr (TX.s3 (by decide))).tr (TX.s3 (by decide)), (ge_n (by decide)).trans ((ge_n (by decide)).trans (s5.trans k5)), (ge_n (by decide)).trans ge_s, ge_s⟩
  have e : f_X6_readNumber (yK σ a 301) = some (bi false, sN t (yK σ a 301) a 4) := by
    rw [rdN_g (t := t) k3]
    exact rdN_f (y := yK σ a 301) hy hb hn (k2.trans e2) k4 hw h6 4 0 FU (by omega) (by rw [FU_eq]; omega)
  rw [look_at ht hb hn e2 e3 e7 e8 hr (by omega), kd_d ((b_or _).resolve_left (fun z => not_both _ ⟨z, hl⟩)) hl, hq, show bi false = (0 : Int32) from rfl, l162N_0 kc e, show bi false = (0 : Int32) from rfl, l245_0 (s8.trans (k8.trans e8)), s3]
theorem lookW_k {σ : St} (ht : TpX t σ) (hb : ∀ i, t i < 256) (hn : n ≤ 1600) (e2 : gI σ 3 2 = nI n) {p a w : Nat} (e3 : gI σ 3 3 = nI p) (e7 : gI σ 3 7 = 0) (e8 : gI σ 3 8 = 0) (hr : Run bl1 t n p a) (hw : Run let1 t n a w) (h0 : a < w) (hq : glu t a = false) (h6 : w - a ≤ 6) : ∃ x1, f_X6_look σ = some (nI (own (nmL t a (w - a))), x1) ∧ TX σ x1 ∧ gI x1 5 2 = gI σ 5 2 ∧ XK n (own (nmL t a (w - a))) a w (nmL t a (w - a)) 0 x1 := by
  obtain ⟨k2, k3, k4, k7, k8, k5, kc⟩ := yK_3 σ a 300
  have hy := ht.c (yK_t σ a 300)
  have hw2 := hw.2.1
  have hl := hw.2.2.1 a (by omega) (by omega)
  obtain ⟨s2, s3, s4, s6, s7, s8, s5, s1, -⟩ := sX_3 (yK σ a 300) (nI (pk5 (nmL t a (w - a)))) (nI (a + (w - a)))
  have hT : TX (yK σ a 300) (sW t (yK σ a 300) a (w - a)) := (TX.s3 (by decide)).tr (TX.s3 (by decide))
  have sc : gI (sW t (yK σ a 300) a (w - a)) 3 5 = 300 := (ge_n (by decide)).trans ((ge_n (by decide)).trans kc)
  have o := own_X (t := t) (l := nmL t a (w - a)) (σ := sW t (yK σ a 300) a (w - a)) ⟨by rw [nmL_len]; omega, by rw [nmL_len]; omega, nmL_lt (fun i hi => hw.2.2.1 (a + i) (by omega) (by omega))⟩ (hy.c hT) s6 sc
  have e : f_X6_readWord (yK σ a 300) = some (bi true, sI (sW t (yK σ a 300) a (w - a)) 3 5 (nI (own (nmL t a (w - a))))) := by
    rw [rdW_g (t := t) k3, rdW_e (y := yK σ a 300) hy hb hn (k2.trans e2) k4 hw h6 (w - a) 0 FU (by omega) (by rw [FU_eq]; omega), o]
    rfl
  refine ⟨sI (sW t (yK σ a 300) a (w - a)) 3 5 (nI (own (nmL t a (w - a)))), ?_, ((yK_t σ a 300).tr hT).tr (TX.s3 (by decide)), (ge_n (by decide)).trans (s5.trans k5), (ge_n (by decide)).trans (s2.trans (k2.trans e2)), ?_, (ge_n (by decide)).trans (s4.trans k4), ge_s, fun e => ?_, fun e => (ge_n (by decide)).trans s6, (ge_n (by decide)).trans (s7.trans k7), (ge_n (by decide)).trans (s8.trans (k8.trans e8))⟩
  · rw [look_at ht hb hn e2 e3 e7 e8 hr (by omega), kd_l hl, hq, show bi false = (0 : Int32) from rfl, l162W_0 kc e, show bi true = (1 : Int32) from rfl, l245_1 ((ge_n (by decide)).trans (s8.trans (k8.trans e8))), ge_s]
  · rw [ge_n (by decide), show nI w = nI (a + (w - a)) by congr 1; omega]; exact s3
  · rcases own_cs (nmL t a (w - a)) with ⟨i, hi, -, h⟩ | ⟨-, h⟩ <;> omega
theorem lookN_k {σ : St} (ht : TpX t σ) (hb : ∀ i, t i < 256) (hn : n ≤ 1600) (e2 : gI σ 3 2 = nI n) {p a w : Nat} (e3 : gI σ 3 3 = nI p) (e7 : gI σ 3 7 = 0) (e8 : gI σ 3 8 = 0) (hr : Run bl1 t n p a) (hw : Run dig1 t n a w) (h0 : a < w) (hq : glu t a = false) (h6 : w - a ≤ 4) : ∃ x1, f_X6_look σ = some (nI 301, x1) ∧ TX σ x1 ∧ gI x1 5 2 = gI σ 5 2 ∧ XK n 301 a w [] (nuN t a (w - a)) x1 := by
  obtain ⟨k2, k3, k4, k7, k8, k5, kc⟩ := yK_3 σ a 301
  have hy := ht.c (yK_t σ a 301)
  have hw2 := hw.2.1
  have hl := hw.2.2.1 a (by omega) (by omega)
  obtain ⟨s2, s3, s4, s6, s7, s8, s5, s1, -⟩ := sX_3 (yK σ a 301) (nI (nuN t a (w - a))) (nI (a + (w - a)))
  have hT : TX (yK σ a 301) (sN t (yK σ a 301) a (w - a)) := (TX.s3 (by decide)).tr (TX.s3 (by decide))
  have sc : gI (sN t (yK σ a 301) a (w - a)) 3 5 = nI 301 := (ge_n (by decide)).trans ((ge_n (by decide)).trans kc)
  have e : f_X6_readNumber (yK σ a 301) = some (bi true, sN t (yK σ a 301) a (w - a)) := by
    rw [rdN_g (t := t) k3]
    exact rdN_e (y := yK σ a 301) hy hb hn (k2.trans e2) k4 hw h6 (w - a) 0 FU (by omega) (by rw [FU_eq]; omega)
  refine ⟨sN t (yK σ a 301) a (w - a), ?_, (yK_t σ a 301).tr hT, s5.trans k5, s2.trans (k2.trans e2), ?_, s4.trans k4, sc, fun e => s6, fun e => by omega, s7.trans k7, s8.trans (k8.trans e8)⟩
  · rw [look_at ht hb hn e2 e3 e7 e8 hr (by omega), kd_d ((b_or _).resolve_left (fun z => not_both _ ⟨z, hl⟩)) hl, hq, show bi false = (0 : Int32) from rfl, l162N_0 kc e, show bi true = (1 : Int32) from rfl, l245_1 (s8.trans (k8.trans e8)), sc]
  · rw [show nI w = nI (a + (w - a)) by congr 1; omega]; exact s3
end Lk
