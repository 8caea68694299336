/-! ===== a look at a word or a number, here ===== -/
section Lk
variable {t : Nat → Nat} {n : Nat}
theorem rdW_e {y : St} (ht : TpX t y) (hb : ∀ i, t i < 256) (hn : n ≤ 1600) (e2 : gI y 3 2 = nI n) {a w : Nat} (hr : Run let1 t n a w) (h6 : w - a ≤ 6) : ∀ d k N, k + d = w - a → d < N → f_X6_readWord_42 N (nI k) (sW t y a k) = f_X6_readWord_137 FU (0 : Int32) (sI (sW t y a (w - a)) 3 5 300) := by
  obtain ⟨r1, r2, r3, r4⟩ := hr
  intro d
  induction d with
  | zero =>
    intro k N hk hN
    obtain ⟨N, rfl⟩ : ∃ k, N = k + 1 := ⟨N - 1, by omega⟩
    obtain rfl : k = w - a := by omega
    obtain ⟨s2, s3, -, s6, -, -, -, s1, -⟩ := sX_3 y (nI (pk5 (nmL t a (w - a)))) (nI (a + (w - a)))
    rw [e_X6_readWord_42, s3, s2, e2]
    by_cases c : n ≤ w
    · rw [if_pos (nI_le (by omega) (by omega))]; rfl
    · have q := r4 (by omega)
      rw [if_neg (nI_ge (by omega) (by omega)), if_pos (inb_nI (by omega) (by omega)), ix_nI (by omega), s1, ht.1 _ (by omega), let_X (hb _), show a + (w - a) = w by omega, q]
      dsimp only [Option.bind]
      rw [if_pos (show bi false = 0 from rfl)]; rfl
  | succ d ih =>
    intro k N hk hN
    obtain ⟨N, rfl⟩ : ∃ k, N = k + 1 := ⟨N - 1, by omega⟩
    rw [rdW_s ht hb hn e2 (by omega) (fun i hi => r3 (a + i) (by omega) (by omega)) (by omega), ih (k + 1) N (by omega) (by omega)]
theorem rdW_f {y : St} (ht : TpX t y) (hb : ∀ i, t i < 256) (hn : n ≤ 1600) (e2 : gI y 3 2 = nI n) (e8 : gI y 3 8 = 0) {a w : Nat} (hr : Run let1 t n a w) (h6 : a + 6 < w) : ∀ d k N, k + d = 6 → d < N → f_X6_readWord_42 N (nI k) (sW t y a k) = some ((), sI (sI (sW t y a 6) 3 8 1) 3 9 (nI (a + 6))) := by
  obtain ⟨r1, r2, r3, r4⟩ := hr
  intro d
  induction d with
  | zero =>
    intro k N hk hN
    obtain ⟨N, rfl⟩ : ∃ k, N = k + 1 := ⟨N - 1, by omega⟩
    obtain rfl : k = 6 := by omega
    obtain ⟨s2, s3, -, s6, -, s8, -, s1, -⟩ := sX_3 y (nI (pk5 (nmL t a 6))) (nI (a + 6))
    rw [e_X6_readWord_42, s3, s2, e2, if_neg (nI_ge (by omega) (by omega)), if_pos (inb_nI (by omega) (by omega)), ix_nI (by omega), s1, ht.1 _ (by omega), let_X (hb _), r3 (a + 6) (by omega) (by omega)]
    dsimp only [Option.bind]
    rw [if_neg (show ¬ bi true = 0 by decide), if_neg (show ¬ nI 6 < 6 by decide), s3, fail_X (s8.trans e8)]
  | succ d ih =>
    intro k N hk hN
    obtain ⟨N, rfl⟩ : ∃ k, N = k + 1 := ⟨N - 1, by omega⟩
    rw [rdW_s ht hb hn e2 (by omega) (fun i hi => r3 (a + i) (by omega) (by omega)) (by omega), ih (k + 1) N (by omega) (by omega)]
theorem rdW_0 {y : St} {a : Nat} (e3 : gI y 3 3 = nI a) : sI y 3 6 0 = sW t y a 0 := by
  show _ = sI (sI y 3 6 0) 3 3 (nI a)
  exact (sI_id (by rw [ge_n (by decide)]; exact e3)).symm
theorem rdW_g {y : St} (ht : TpX t y) (hb : ∀ i, t i < 256) {a : Nat} (ha : a < 1600) (e3 : gI y 3 3 = nI a) (e4 : gI y 3 4 = nI a) (hq : a = 0 ∨ dig1 (t (a - 1)) = false) : f_X6_readWord y = f_X6_readWord_42 FU 0 (sW t y a 0) := by
  rw [e_X6_readWord, e4]
  by_cases c : a = 0
  · rw [if_pos (by rw [c]; decide)]
    dsimp only [ltt]
    rw [rdW_0 (t := t) e3]
  · have q := hq.resolve_left c
    rw [if_neg (nI_nle (by omega) (by omega)), show (1 : Int32) = nI 1 from rfl, pk_sub (by omega), if_pos (inb_nI (by omega) (by omega)), ix_nI (by omega), ht.1 _ (by omega), dig_X (hb _), q]
    dsimp only [Option.bind, ltt]
    rw [if_pos (show bi false = 0 from rfl), rdW_0 (t := t) e3]
theorem lookW_p {σ : St} (ht : TpX t σ) (hb : ∀ i, t i < 256) (hn : n ≤ 1600) (e2 : gI σ 3 2 = nI n) {p a : Nat} (e3 : gI σ 3 3 = nI p) (e7 : gI σ 3 7 = 0) (e8 : gI σ 3 8 = 0) (hr : Run bl1 t n p a) (ha : a < n) (hl : let1 (t a) = true) (h0 : 0 < a) (hq : dig1 (t (a - 1)) = true) : ∃ x1, f_X6_look σ = some (303, x1) ∧ TX σ x1 ∧ gI x1 5 2 = gI σ 5 2 ∧ XF a x1 := by
  obtain ⟨y2, y3, y4, y7, y8, y5⟩ := yX_3 σ a
  have hy := ht.c (yX_t σ a)
  refine ⟨sI (sI (yX σ a) 3 8 1) 3 9 (nI a), ?_, ((yX_t σ a).tr (TX.s3 (by decide))).tr (TX.s3 (by decide)), ?_, ?_, ge_s⟩
  · rw [look_at ht hb hn e2 e3 e7 e8 hr ha, if_pos hl, e_X6_readWord, y4, if_neg (nI_nle (by omega) (by omega))]
    rw [show (nI a - 1 : Int32) = nI (a - 1) from pk_sub (b := 1) (by omega), if_pos (inb_nI (by omega) (by omega)), ix_nI (by omega), hy.1 _ (by omega), dig_X (hb _), hq]
    dsimp only [Option.bind]
    rw [if_neg (show ¬ bi true = 0 by decide), y4, fail_X (y8.trans e8)]
    dsimp only
    rw [if_neg (by rw [ge_n (by decide), ge_s]; decide)]
  · rw [ge_n (by decide), ge_n (by decide)]; exact y5
  · rw [ge_n (by decide), ge_s]
theorem lookW_f {σ : St} (ht : TpX t σ) (hb : ∀ i, t i < 256) (hn : n ≤ 1600) (e2 : gI σ 3 2 = nI n) {p a w : Nat} (e3 : gI σ 3 3 = nI p) (e7 : gI σ 3 7 = 0) (e8 : gI σ 3 8 = 0) (hr : Run bl1 t n p a) (hw : Run let1 t n a w) (hq : a = 0 ∨ dig1 (t (a - 1)) = false) (h6 : a + 6 < w) : ∃ x1, f_X6_look σ = some (303, x1) ∧ TX σ x1 ∧ gI x1 5 2 = gI σ 5 2 ∧ XF (a + 6) x1 := by
  obtain ⟨y2, y3, y4, y7, y8, y5⟩ := yX_3 σ a
  have hy := ht.c (yX_t σ a)
  have hw2 := hw.2.1
  have hl := hw.2.2.1 a (by omega) (by omega)
  refine ⟨sI (sI (sW t (yX σ a) a 6) 3 8 1) 3 9 (nI (a + 6)), ?_, ((((yX_t σ a).tr (TX.s3 (by decide))).tr (TX.s3 (by decide))).tr (TX.s3 (by decide))).tr (TX.s3 (by decide)), ?_, ?_, ge_s⟩
  · rw [look_at ht hb hn e2 e3 e7 e8 hr (by omega), if_pos hl, rdW_g hy hb (by omega) y3 y4 hq]
    have e := rdW_f (y := yX σ a) hy hb hn (y2.trans e2) (y8.trans e8) hw h6 6 0 FU (by omega) (by rw [FU_eq]; omega)
    rw [show (0 : Int32) = nI 0 from rfl, e]
    dsimp only [Option.bind]
    rw [if_neg (by rw [ge_n (by decide), ge_s]; decide)]
  · rw [ge_n (by decide), ge_n (by decide), ge_n (by decide), ge_n (by decide)]; exact y5
  · rw [ge_n (by decide), ge_s]
theorem rdN_e {y : St} (ht : TpX t y) (hb : ∀ i, t i < 256) (hn : n ≤ 1600) (e2 : gI y 3 2 = nI n) {a w : Nat} (hr : Run dig1 t n a w) (h6 : w - a ≤ 4) : ∀ d k N, k + d = w - a → d < N → f_X6_readNumber_42 N (nI k) (sN t y a k) = some ((), sI (sN t y a (w - a)) 3 5 301) := by
  obtain ⟨r1, r2, r3, r4⟩ := hr
  intro d
  induction d with
  | zero =>
    intro k N hk hN
    obtain ⟨N, rfl⟩ : ∃ k, N = k + 1 := ⟨N - 1, by omega⟩
    obtain rfl : k = w - a := by omega
    obtain ⟨s2, s3, -, s6, -, -, -, s1, -⟩ := sX_3 y (nI (nuN t a (w - a))) (nI (a + (w - a)))
    rw [e_X6_readNumber_42, s3, s2, e2]
    by_cases c : n ≤ w
    · rw [if_pos (nI_le (by omega) (by omega))]; rfl
    · have q := r4 (by omega)
      rw [if_neg (nI_ge (by omega) (by omega)), if_pos (inb_nI (by omega) (by omega)), ix_nI (by omega), s1, ht.1 _ (by omega), dig_X (hb _), show a + (w - a) = w by omega, q]
      dsimp only [Option.bind]
      rw [if_pos (show bi false = 0 from rfl)]; rfl
  | succ d ih =>
    intro k N hk hN
    obtain ⟨N, rfl⟩ : ∃ k, N = k + 1 := ⟨N - 1, by omega⟩
    rw [rdN_s ht hb hn e2 (by omega) (fun i hi => r3 (a + i) (by omega) (by omega)) (by omega), ih (k + 1) N (by omega) (by omega)]
theorem rdN_f {y : St} (ht : TpX t y) (hb : ∀ i, t i < 256) (hn : n ≤ 1600) (e2 : gI y 3 2 = nI n) (e8 : gI y 3 8 = 0) {a w : Nat} (hr : Run dig1 t n a w) (h6 : a + 4 < w) : ∀ d k N, k + d = 4 → d < N → f_X6_readNumber_42 N (nI k) (sN t y a k) = some ((), sI (sI (sN t y a 4) 3 8 1) 3 9 (nI (a + 4))) := by
  obtain ⟨r1, r2, r3, r4⟩ := hr
  intro d
  induction d with
  | zero =>
    intro k N hk hN
    obtain ⟨N, rfl⟩ : ∃ k, N = k + 1 := ⟨N - 1, by omega⟩
    obtain rfl : k = 4 := by omega
    obtain ⟨s2, s3, -, s6, -, s8, -, s1, -⟩ := sX_3 y (nI (nuN t a 4)) (nI (a + 4))
    rw [e_X6_readNumber_42, s3, s2, e2, if_neg (nI_ge (by omega) (by omega)), if_pos (inb_nI (by omega) (by omega)), ix_nI (by omega), s1, ht.1 _ (by omega), dig_X (hb _), r3 (a + 4) (by omega) (by omega)]
    dsimp only [Option.bind]
    rw [if_neg (show ¬ bi true = 0 by decide), if_neg (show ¬ nI 4 < 4 by decide), s3, fail_X (s8.trans e8)]
  | succ d ih =>
    intro k N hk hN
    obtain ⟨N, rfl⟩ : ∃ k, N = k + 1 := ⟨N - 1, by omega⟩
    rw [rdN_s ht hb hn e2 (by omega) (fun i hi => r3 (a + i) (by omega) (by omega)) (by omega), ih (k + 1) N (by omega) (by omega)]
theorem rdN_0 {y : St} {a : Nat} (e3 : gI y 3 3 = nI a) : sI y 3 6 0 = sN t y a 0 := by
  show _ = sI (sI y 3 6 0) 3 3 (nI a)
  exact (sI_id (by rw [ge_n (by decide)]; exact e3)).symm
theorem rdN_g {y : St} (ht : TpX t y) (hb : ∀ i, t i < 256) {a : Nat} (ha : a < 1600) (e3 : gI y 3 3 = nI a) (e4 : gI y 3 4 = nI a) (hq : a = 0 ∨ let1 (t (a - 1)) = false) : f_X6_readNumber y = f_X6_readNumber_42 FU 0 (sN t y a 0) := by
  rw [e_X6_readNumber, e4]
  by_cases c : a = 0
  · rw [if_pos (by rw [c]; decide)]
    dsimp only [ltt]
    rw [rdN_0 (t := t) e3]
  · have q := hq.resolve_left c
    rw [if_neg (nI_nle (by omega) (by omega)), show (1 : Int32) = nI 1 from rfl, pk_sub (by omega), if_pos (inb_nI (by omega) (by omega)), ix_nI (by omega), ht.1 _ (by omega), let_X (hb _), q]
    dsimp only [Option.bind, ltt]
    rw [if_pos (show bi false = 0 from rfl), rdN_0 (t := t) e3]
theorem lookN_p {σ : St} (ht : TpX t σ) (hb : ∀ i, t i < 256) (hn : n ≤ 1600) (e2 : gI σ 3 2 = nI n) {p a : Nat} (e3 : gI σ 3 3 = nI p) (e7 : gI σ 3 7 = 0) (e8 : gI σ 3 8 = 0) (hr : Run bl1 t n p a) (ha : a < n) (hl : dig1 (t a) = true) (h0 : 0 < a) (hq : let1 (t (a - 1)) = true) : ∃ x1, f_X6_look σ = some (303, x1) ∧ TX σ x1 ∧ gI x1 5 2 = gI σ 5 2 ∧ XF a x1 := by
  obtain ⟨y2, y3, y4, y7, y8, y5⟩ := yX_3 σ a
  have hy := ht.c (yX_t σ a)
  refine ⟨sI (sI (yX σ a) 3 8 1) 3 9 (nI a), ?_, ((yX_t σ a).tr (TX.s3 (by decide))).tr (TX.s3 (by decide)), ?_, ?_, ge_s⟩
  · rw [look_at ht hb hn e2 e3 e7 e8 hr ha, if_neg (by cases e : let1 (t a) with | false => decide | true => exact absurd ⟨e, hl⟩ (not_both _)), if_pos hl, e_X6_readNumber, y4, if_neg (nI_nle (by omega) (by omega))]
    rw [show (nI a - 1 : Int32) = nI (a - 1) from pk_sub (b := 1) (by omega), if_pos (inb_nI (by omega) (by omega)), ix_nI (by omega), hy.1 _ (by omega), let_X (hb _), hq]
    dsimp only [Option.bind]
    rw [if_neg (show ¬ bi true = 0 by decide), y4, fail_X (y8.trans e8)]
    dsimp only
    rw [if_neg (by rw [ge_n (by decide), ge_s]; decide)]
  · rw [ge_n (by decide), ge_n (by decide)]; exact y5
  · rw [ge_n (by decide), ge_s]
theorem lookN_f {σ : St} (ht : TpX t σ) (hb : ∀ i, t i < 256) (hn : n ≤ 1600) (e2 : gI σ 3 2 = nI n) {p a w : Nat} (e3 : gI σ 3 3 = nI p) (e7 : gI σ 3 7 = 0) (e8 : gI σ 3 8 = 0) (hr : Run bl1 t n p a) (hw : Run dig1 t n a w) (hq : a = 0 ∨ let1 (t (a - 1)) = false) (h6 : a + 4 < w) : ∃ x1, f_X6_look σ = some (303, x1) ∧ TX σ x1 ∧ gI x1 5 2 = gI σ 5 2 ∧ XF (a + 4) x1 := by
  obtain ⟨y2, y3, y4, y7, y8, y5⟩ := yX_3 σ a
  have hy := ht.c (yX_t σ a)
  have hw2 := hw.2.1
  have hl := hw.2.2.1 a (by omega) (by omega)
  refine ⟨sI (sI (sN t (yX σ a) a 4) 3 8 1) 3 9 (nI (a + 4)), ?_, ((((yX_t σ a).tr (TX.s3 (by decide))).tr (TX.s3 (by decide))).tr (TX.s3 (by decide))).tr (TX.s3 (by decide)), ?_, ?_, ge_s⟩
  · rw [look_at ht hb hn e2 e3 e7 e8 hr (by omega), if_neg (by cases e : let1 (t a) with | false => decide | true => exact absurd ⟨e, hl⟩ (not_both _)), if_pos hl, rdN_g hy hb (by omega) y3 y4 hq]
    have e := rdN_f (y := yX σ a) hy hb hn (y2.trans e2) (y8.trans e8) hw h6 4 0 FU (by omega) (by rw [FU_eq]; omega)
    rw [show (0 : Int32) = nI 0 from rfl, e]
    dsimp only [Option.bind]
    rw [if_neg (by rw [ge_n (by decide), ge_s]; decide)]
  · rw [ge_n (by decide), ge_n (by decide), ge_n (by decide), ge_n (by decide)]; exact y5
  · rw [ge_n (by decide), ge_s]
theorem lookW_k {σ : St} (ht : TpX t σ) (hb : ∀ i, t i < 256) (hn : n ≤ 1600) (e2 : gI σ 3 2 = nI n) {p a w : Nat} (e3 : gI σ 3 3 = nI p) (e7 : gI σ 3 7 = 0) (e8 : gI σ 3 8 = 0) (hr : Run bl1 t n p a) (hw : Run let1 t n a w) (h0 : a < w) (hq : a = 0 ∨ dig1 (t (a - 1)) = false) (h6 : w - a ≤ 6) : ∃ x1, f_X6_look σ = some (nI (own (nmL t a (w - a))), x1) ∧ TX σ x1 ∧ gI x1 5 2 = gI σ 5 2 ∧ XK n (own (nmL t a (w - a))) a w (nmL t a (w - a)) 0 x1 := by
  obtain ⟨y2, y3, y4, y7, y8, y5⟩ := yX_3 σ a
  have hy := ht.c (yX_t σ a)
  have hw2 := hw.2.1
  have hl := hw.2.2.1 a (by omega) (by omega)
  obtain ⟨s2, s3, s4, s6, s7, s8, s5, s1, -⟩ := sX_3 (yX σ a) (nI (pk5 (nmL t a (w - a)))) (nI (a + (w - a)))
  have hT : TX (yX σ a) (sW t (yX σ a) a (w - a)) := (TX.s3 (by decide)).tr (TX.s3 (by decide))
  have o := own_X (t := t) (l := nmL t a (w - a)) (σ := sW t (yX σ a) a (w - a)) ⟨by rw [nmL_len]; omega, by rw [nmL_len]; omega, nmL_lt (fun i hi => hw.2.2.1 (a + i) (by omega) (by omega))⟩ (hy.c hT) s6
  refine ⟨sI (sW t (yX σ a) a (w - a)) 3 5 (nI (own (nmL t a (w - a)))), ?_, ((yX_t σ a).tr hT).tr (TX.s3 (by decide)), ?_, ?_, ?_, ?_, ge_s, fun e => ?_, fun e => ?_, ?_, ?_⟩
  · rw [look_at ht hb hn e2 e3 e7 e8 hr (by omega), if_pos hl, rdW_g hy hb (by omega) y3 y4 hq]
    have e := rdW_e (y := yX σ a) hy hb hn (y2.trans e2) hw h6 (w - a) 0 FU (by omega) (by rw [FU_eq]; omega)
    rw [show (0 : Int32) = nI 0 from rfl, e, show nI 0 = (0 : Int32) from rfl, o]
    dsimp only [Option.bind]
    rw [if_pos (by rw [ge_n (by decide)]; exact s8.trans (y8.trans e8)), ge_s]
  · rw [ge_n (by decide)]; exact s5.trans y5
  · rw [ge_n (by decide)]; exact s2.trans (y2.trans e2)
  · rw [ge_n (by decide), show nI w = nI (a + (w - a)) by congr 1; omega]; exact s3
  · rw [ge_n (by decide)]; exact s4.trans y4
  · rcases own_cs (nmL t a (w - a)) with ⟨i, hi, -, h⟩ | ⟨-, h⟩ <;> omega
  · rw [ge_n (by decide)]; exact s6
  · rw [ge_n (by decide)]; exact s7.trans y7
  · rw [ge_n (by decide)]; exact s8.trans (y8.trans e8)
theorem lookN_k {σ : St} (ht : TpX t σ) (hb : ∀ i, t i < 256) (hn : n ≤ 1600) (e2 : gI σ 3 2 = nI n) {p a w : Nat} (e3 : gI σ 3 3 = nI p) (e7 : gI σ 3 7 = 0) (e8 : gI σ 3 8 = 0) (hr : Run bl1 t n p a) (hw : Run dig1 t n a w) (h0 : a < w) (hq : a = 0 ∨ let1 (t (a - 1)) = false) (h6 : w - a ≤ 4) : ∃ x1, f_X6_look σ = some (nI 301, x1) ∧ TX σ x1 ∧ gI x1 5 2 = gI σ 5 2 ∧ XK n 301 a w [] (nuN t a (w - a)) x1 := by
  obtain ⟨y2, y3, y4, y7, y8, y5⟩ := yX_3 σ a
  have hy := ht.c (yX_t σ a)
  have hw2 := hw.2.1
  have hl := hw.2.2.1 a (by omega) (by omega)
  have hl' : let1 (t a) = false := by
    cases e : let1 (t a) with
    | false => rfl
    | true => exact absurd ⟨e, hl⟩ (not_both _)
  obtain ⟨s2, s3, s4, s6, s7, s8, s5, s1, -⟩ := sX_3 (yX σ a) (nI (nuN t a (w - a))) (nI (a + (w - a)))
  refine ⟨sI (sN t (yX σ a) a (w - a)) 3 5 301, ?_, (((yX_t σ a).tr (TX.s3 (by decide))).tr (TX.s3 (by decide))).tr (TX.s3 (by decide)), ?_, ?_, ?_, ?_, ge_s, fun e => ?_, fun e => by omega, ?_, ?_⟩
  · rw [look_at ht hb hn e2 e3 e7 e8 hr (by omega), if_neg (by rw [hl']; decide), if_pos hl, rdN_g hy hb (by omega) y3 y4 hq]
    have e := rdN_e (y := yX σ a) hy hb hn (y2.trans e2) hw h6 (w - a) 0 FU (by omega) (by rw [FU_eq]; omega)
    rw [show (0 : Int32) = nI 0 from rfl, e]
    dsimp only [Option.bind]
    rw [if_pos (by rw [ge_n (by decide)]; exact s8.trans (y8.trans e8)), ge_s]
    rfl
  · rw [ge_n (by decide)]; exact s5.trans y5
  · rw [ge_n (by decide)]; exact s2.trans (y2.trans e2)
  · rw [ge_n (by decide), show nI w = nI (a + (w - a)) by congr 1; omega]; exact s3
  · rw [ge_n (by decide)]; exact s4.trans y4
  · rw [ge_n (by decide)]; exact s6
  · rw [ge_n (by decide)]; exact s7.trans y7
  · rw [ge_n (by decide)]; exact s8.trans (y8.trans e8)
end Lk
