/-! ===== the next word of the text, here ===== -/
theorem sIw (σ : St) {o k o' k' : Nat} (h : ¬ (o = o' ∧ k = k')) (v w : Int32) : sI (sI σ o k v) o' k' w = sI (sI σ o' k' w) o k v := by
  unfold sI
  refine Prod.ext ?_ rfl
  funext a b
  by_cases h1 : a = o ∧ b = k
  · have h2 : ¬ (a = o' ∧ b = k') := fun e => h ⟨h1.1.symm.trans e.1, h1.2.symm.trans e.2⟩
    simp only [if_pos h1, if_neg h2]
  · simp only [if_neg h1]
def TX (x x' : St) : Prop := (∀ o k, o ≠ 3 → o ≠ 5 → gI x' o k = gI x o k) ∧ (∀ o k, gR x' o k = gR x o k) ∧ (∀ o k, gL x' o k = gL x o k) ∧ gI x' 3 2 = gI x 3 2
def TM (m m' : St) : Prop := (∀ o k, ¬ (o = 0 ∧ 3 ≤ k ∧ k ≤ 9) → gI m' o k = gI m o k) ∧ (∀ o k, ¬ (o = 0 ∧ k = 7) → gL m' o k = gL m o k)
theorem TX.rf (x : St) : TX x x := ⟨fun _ _ _ _ => rfl, fun _ _ => rfl, fun _ _ => rfl, rfl⟩
theorem TM.rf (x : St) : TM x x := ⟨fun _ _ _ => rfl, fun _ _ _ => rfl⟩
theorem TX.tr {x y z : St} (h : TX x y) (g : TX y z) : TX x z := ⟨fun o k e e' => (g.1 o k e e').trans (h.1 o k e e'), fun o k => (g.2.1 o k).trans (h.2.1 o k), fun o k => (g.2.2.1 o k).trans (h.2.2.1 o k), g.2.2.2.trans h.2.2.2⟩
theorem TM.tr {x y z : St} (h : TM x y) (g : TM y z) : TM x z := ⟨fun o k e => (g.1 o k e).trans (h.1 o k e), fun o k e => (g.2 o k e).trans (h.2 o k e)⟩
theorem TX.s3 {x : St} {k : Nat} {v : Int32} (h : k ≠ 2) : TX x (sI x 3 k v) := ⟨fun o j e _ => ge_n (by omega), fun _ _ => rfl, fun _ _ => rfl, ge_n (by omega)⟩
theorem TX.s5 {x : St} {k : Nat} {v : Int32} : TX x (sI x 5 k v) := ⟨fun o j _ e => ge_n (by omega), fun _ _ => rfl, fun _ _ => rfl, ge_n (by omega)⟩
theorem TM.s {x : St} {k : Nat} {v : Int32} (h : 3 ≤ k ∧ k ≤ 9) : TM x (sI x 0 k v) := ⟨fun o j e => ge_n (by omega), fun _ _ _ => rfl⟩
theorem TM.l {x : St} {v : Int64} : TM x (sL x 0 7 v) := ⟨fun _ _ _ => rfl, fun o j e => by rw [gL_sL, if_neg e]⟩
def TpX (t : Nat → Nat) (x : St) : Prop := (∀ i, i < 1600 → gI x 1 i = nI (t i)) ∧ ∀ k, k < 23 → gI x 4 k = ownN k
def TpM (t : Nat → Nat) (m : St) : Prop := ∀ i, i < 1600 → gI m 1 i = nI (t i)
theorem TpX.c {t : Nat → Nat} {x x' : St} (h : TpX t x) (g : TX x x') : TpX t x' := ⟨fun i hi => (g.1 1 i (by omega) (by omega)).trans (h.1 i hi), fun i hi => (g.1 4 i (by omega) (by omega)).trans (h.2 i hi)⟩
theorem TpM.c {t : Nat → Nat} {x x' : St} (h : TpM t x) (g : TM x x') : TpM t x' := fun i hi => (g.1 1 i (by omega)).trans (h i hi)
section Lk
variable {t : Nat → Nat} {n : Nat}
theorem blX {σ : St} (ht : TpX t σ) (hb : ∀ i, t i < 256) (hn : n ≤ 1600) (e2 : gI σ 3 2 = nI n) {a p0 : Nat} (hr : Run bl1 t n p0 a) : ∀ d p N, p0 ≤ p → p + d = a → d < N → f_X6_look_37 N (sI σ 3 3 (nI p)) = f_X6_look_89 (sI σ 3 3 (nI a)) := by
  obtain ⟨r1, r2, r3, r4⟩ := hr
  intro d
  induction d with
  | zero =>
    intro p N h0 hp hN
    obtain ⟨N, rfl⟩ : ∃ k, N = k + 1 := ⟨N - 1, by omega⟩
    obtain rfl : p = a := by omega
    rw [e_X6_look_37, ge_n (by decide), ge_s, e2]
    by_cases c : n ≤ p
    · rw [if_pos (nI_le c (by omega))]
    · have q := r4 (by omega)
      have hlt := hb p
      simp only [bl1, Bool.or_eq_false_iff, decide_eq_false_iff_not] at q
      rw [if_neg (nI_ge (by omega) (by omega)), if_pos (inb_nI (by omega) (by omega)), ix_nI (by omega), ge_n (by omega), ht.1 p (by omega), show (10 : Int32) = nI 10 from rfl, show (32 : Int32) = nI 32 from rfl, if_neg (fun e => q.2 ((nI_eq (by omega) (by omega)).mp e)), if_pos (inb_nI (by omega) (by omega)), if_neg (fun e => q.1 ((nI_eq (by omega) (by omega)).mp e))]
  | succ d ih =>
    intro p N h0 hp hN
    obtain ⟨N, rfl⟩ : ∃ k, N = k + 1 := ⟨N - 1, by omega⟩
    have q := r3 p h0 (by omega)
    have hlt := hb p
    simp only [bl1, Bool.or_eq_true, decide_eq_true_eq] at q
    rw [e_X6_look_37, ge_n (by decide), ge_s, e2, if_neg (nI_ge (by omega) (by omega)), if_pos (inb_nI (by omega) (by omega)), ix_nI (by omega), ge_n (by omega), ht.1 p (by omega), show (10 : Int32) = nI 10 from rfl, show (32 : Int32) = nI 32 from rfl]
    dsimp only [ltt]
    rw [nI_1, sI2, ih (p + 1) N (by omega) (by omega) (by omega)]
    rcases q with q | q
    · rw [q, if_neg (by decide), if_pos (inb_nI (by omega) (by omega)), if_pos rfl]
    · rw [q, if_pos rfl]
theorem look_go {σ : St} (ht : TpX t σ) (hb : ∀ i, t i < 256) (hn : n ≤ 1600) (e2 : gI σ 3 2 = nI n) {p a : Nat} (e3 : gI σ 3 3 = nI p) (e7 : gI σ 3 7 = 0) (e8 : gI σ 3 8 = 0) (hr : Run bl1 t n p a) : f_X6_look σ = f_X6_look_89 (sI (sI σ 3 7 1) 3 3 (nI a)) := by
  have hr1 := hr.1
  have hr2 := hr.2.1
  rw [e_X6_look, if_pos e7, if_pos e8]
  dsimp only [ltt]
  have e : sI (sI σ 3 7 1) 3 3 (nI p) = sI σ 3 7 1 := sI_id (by rw [ge_n (by decide)]; exact e3)
  have := blX (σ := sI σ 3 7 1) (ht.c (TX.s3 (by decide))) hb hn (by rw [ge_n (by decide)]; exact e2) hr (a - p) p FU (by omega) (by omega) (by rw [FU_eq]; omega)
  rw [e] at this
  exact this
/-- what the reader holds behind a look -/
def XK (n c a e : Nat) (l : List Nat) (v : Nat) (x : St) : Prop := gI x 3 2 = nI n ∧ gI x 3 3 = nI e ∧ gI x 3 4 = nI a ∧ gI x 3 5 = nI c ∧ (c = 301 → gI x 3 6 = nI v) ∧ (c = 300 ∨ 400 ≤ c → gI x 3 6 = nI (pk5 l)) ∧ gI x 3 7 = 1 ∧ gI x 3 8 = 0
theorem XK.look {c a e v : Nat} {l : List Nat} {x : St} (h : XK n c a e l v x) : f_X6_look x = some (nI c, x) := by
  obtain ⟨-, -, -, h5, -, -, h7, h8⟩ := h
  rw [e_X6_look, if_neg (by rw [h7]; decide), if_pos h8, h5]
/-- broken: the fault is put down -/
def XF (q : Nat) (x : St) : Prop := gI x 3 8 = 1 ∧ gI x 3 9 = nI q
abbrev yX (σ : St) (a : Nat) : St := sI (sI (sI σ 3 7 1) 3 3 (nI a)) 3 4 (nI a)
theorem yX_t (σ : St) (a : Nat) : TX σ (yX σ a) := ((TX.s3 (by decide)).tr (TX.s3 (by decide))).tr (TX.s3 (by decide))
theorem yX_3 (σ : St) (a : Nat) : gI (yX σ a) 3 2 = gI σ 3 2 ∧ gI (yX σ a) 3 3 = nI a ∧ gI (yX σ a) 3 4 = nI a ∧ gI (yX σ a) 3 7 = 1 ∧ gI (yX σ a) 3 8 = gI σ 3 8 ∧ gI (yX σ a) 5 2 = gI σ 5 2 := by
  refine ⟨?_, ?_, ?_, ?_, ?_, ?_⟩
  · rw [ge_n (by decide), ge_n (by decide), ge_n (by decide)]
  · rw [ge_n (by decide), ge_s]
  · rw [ge_s]
  · rw [ge_n (by decide), ge_n (by decide), ge_s]
  · rw [ge_n (by decide), ge_n (by decide), ge_n (by decide)]
  · rw [ge_n (by decide), ge_n (by decide), ge_n (by decide)]
theorem fail_X {k q : Int32} {σ : St} (h : gI σ 3 8 = 0) : f_X6_fail k q σ = some (0, sI (sI σ 3 8 k) 3 9 q) := by
  rw [e_X6_fail, if_pos h]; rfl
/-- a look's end: all is well -/
theorem l245_1 {y : St} (h : gI y 3 8 = 0) : f_X6_look_245 1 y = some (gI y 3 5, y) := by
  rw [e_X6_look_245, if_neg (by decide), e_X6_look_259, if_pos h]
/-- a look's end: a fault where the reader stands -/
theorem l245_0 {y : St} (h : gI y 3 8 = 0) : f_X6_look_245 0 y = some (303, sI (sI y 3 8 1) 3 9 (gI y 3 3)) := by
  rw [e_X6_look_245, if_pos rfl, fail_X h]
  dsimp only [Option.bind]
  rw [e_X6_look_259, if_neg (by rw [ge_n (by decide), ge_s]; decide)]
theorem l127 {y : St} (ht : TpX t y) (hb : ∀ i, t i < 256) {a : Nat} (ha : a ≤ 1600) (e4 : gI y 3 4 = nI a) (s : Int32) : f_X6_look_127 s y = f_X6_look_162 (bi (glu t a)) (sI y 3 5 s) := by
  rw [e_X6_look_127]
  dsimp only [ltt]
  rw [show gI (sI y 3 5 s) 3 4 = nI a from (ge_n (by decide)).trans e4]
  by_cases c : a = 0
  · subst c
    rw [if_pos (by decide)]
    rfl
  · rw [if_neg (nI_nle (by omega) (by omega)), show nI a - (1 : Int32) = nI (a - 1) from pk_sub (b := 1) (by omega), if_pos (inb_nI (by omega) (by omega)), ix_nI (by omega), ge_n (by omega), ht.1 _ (by omega), kind_X (hb _)]
    dsimp only [Option.bind]
    cases el : let1 (t (a - 1)) with
    | true =>
      rw [kd_l el, if_neg (by decide), glu_1 (by omega) (.inl el)]
      rfl
    | false =>
      cases ed : dig1 (t (a - 1)) with
      | true =>
        rw [kd_d el ed, if_neg (by decide), glu_1 (by omega) (.inr ed)]
        rfl
      | false =>
        have h256 := hb (a - 1)
        rw [kd_s el ed, if_pos (show nI (t (a - 1)) ≤ (255 : Int32) from nI_le (b := 255) (by omega) (by omega))]
        have g : glu t a = false := by
          cases g : glu t a with
          | false => rfl
          | true =>
            rcases (glu_0 g).2 with q | q
            · rw [el] at q; cases q
            · rw [ed] at q; cases q
        rw [g]
        rfl
abbrev yK (σ : St) (a c : Nat) : St := sI (yX σ a) 3 5 (nI c)
theorem yK_t (σ : St) (a c : Nat) : TX σ (yK σ a c) := (yX_t σ a).tr (TX.s3 (by decide))
theorem yK_3 (σ : St) (a c : Nat) : gI (yK σ a c) 3 2 = gI σ 3 2 ∧ gI (yK σ a c) 3 3 = nI a ∧ gI (yK σ a c) 3 4 = nI a ∧ gI (yK σ a c) 3 7 = 1 ∧ gI (yK σ a c) 3 8 = gI σ 3 8 ∧ gI (yK σ a c) 5 2 = gI σ 5 2 ∧ gI (yK σ a c) 3 5 = nI c := by
  obtain ⟨y2, y3, y4, y7, y8, y5⟩ := yX_3 σ a
  exact ⟨(ge_n (by decide)).trans y2, (ge_n (by decide)).trans y3, (ge_n (by decide)).trans y4, (ge_n (by decide)).trans y7, (ge_n (by decide)).trans y8, (ge_n (by decide)).trans y5, ge_s⟩
theorem look_end {σ : St} (ht : TpX t σ) (hb : ∀ i, t i < 256) (hn : n ≤ 1600) (e2 : gI σ 3 2 = nI n) {p : Nat} (e3 : gI σ 3 3 = nI p) (e7 : gI σ 3 7 = 0) (e8 : gI σ 3 8 = 0) (hr : Run bl1 t n p n) : ∃ x1, f_X6_look σ = some (302, x1) ∧ TX σ x1 ∧ gI x1 5 2 = gI σ 5 2 ∧ XK n 302 n n [] 0 x1 := by
  obtain ⟨y2, y3, y4, y7, y8, y5⟩ := yX_3 σ n
  obtain ⟨k2, k3, k4, k7, k8, k5, kc⟩ := yK_3 σ n 302
  have hy := ht.c (yX_t σ n)
  refine ⟨yK σ n 302, ?_, yK_t σ n 302, k5, k2.trans e2, k3, k4, kc, fun e => by omega, fun e => by omega, k7, k8.trans e8⟩
  rw [look_go ht hb hn e2 e3 e7 e8 hr, e_X6_look_89]
  dsimp only [ltt]
  rw [show gI (sI (sI σ 3 7 1) 3 3 (nI n)) 3 3 = nI n from ge_s]
  rw [show sI (sI (sI σ 3 7 1) 3 3 (nI n)) 3 4 (nI n) = yX σ n from rfl, y4, y2, e2, if_pos (nI_le (Nat.le_refl _) (by omega)), l127 hy hb hn y4, e_X6_look_162]
  rw [show gI (sI (yX σ n) 3 5 302) 3 5 = (302 : Int32) from ge_s, if_neg (by decide), if_neg (by decide), if_pos rfl]
  show f_X6_look_245 1 (yK σ n 302) = _
  rw [l245_1 (k8.trans e8), kc]
  rfl
theorem look_at {σ : St} (ht : TpX t σ) (hb : ∀ i, t i < 256) (hn : n ≤ 1600) (e2 : gI σ 3 2 = nI n) {p a : Nat} (e3 : gI σ 3 3 = nI p) (e7 : gI σ 3 7 = 0) (e8 : gI σ 3 8 = 0) (hr : Run bl1 t n p a) (ha : a < n) : f_X6_look σ = f_X6_look_162 (bi (glu t a)) (yK σ a (kd (t a))) := by
  obtain ⟨y2, y3, y4, y7, y8, y5⟩ := yX_3 σ a
  have hy := ht.c (yX_t σ a)
  rw [look_go ht hb hn e2 e3 e7 e8 hr, e_X6_look_89]
  dsimp only [ltt]
  rw [show gI (sI (sI σ 3 7 1) 3 3 (nI a)) 3 3 = nI a from ge_s]
  rw [show sI (sI (sI σ 3 7 1) 3 3 (nI a)) 3 4 (nI a) = yX σ a from rfl, y4, y2, e2, if_neg (nI_ge ha (by omega)), if_pos (inb_nI (by omega) (by omega)), ix_nI (by omega), hy.1 a (by omega), kind_X (hb a)]
  dsimp only [Option.bind]
  rw [l127 hy hb (by omega) y4]
theorem look_sg {σ : St} (ht : TpX t σ) (hb : ∀ i, t i < 256) (hn : n ≤ 1600) (e2 : gI σ 3 2 = nI n) {p a : Nat} (e3 : gI σ 3 3 = nI p) (e7 : gI σ 3 7 = 0) (e8 : gI σ 3 8 = 0) (hr : Run bl1 t n p a) (ha : a < n) (hl : let1 (t a) = false) (hd : dig1 (t a) = false) : ∃ x1, f_X6_look σ = some (nI (t a), x1) ∧ TX σ x1 ∧ gI x1 5 2 = gI σ 5 2 ∧ XK n (t a) a (a + 1) [] 0 x1 := by
  obtain ⟨k2, k3, k4, k7, k8, k5, kc⟩ := yK_3 σ a (t a)
  have hlt := hb a
  refine ⟨sI (yK σ a (t a)) 3 3 (nI (a + 1)), ?_, (yK_t σ a (t a)).tr (TX.s3 (by decide)), (ge_n (by decide)).trans k5, ?_⟩
  · rw [look_at ht hb hn e2 e3 e7 e8 hr ha, kd_s hl hd, e_X6_look_162, kc, if_neg (show ¬ nI (t a) = (300 : Int32) from fun e => by have := (nI_eq (b := 300) (by omega) (by omega)).mp e; omega), if_neg (show ¬ nI (t a) = (301 : Int32) from fun e => by have := (nI_eq (b := 301) (by omega) (by omega)).mp e; omega), if_neg (show ¬ nI (t a) = (302 : Int32) from fun e => by have := (nI_eq (b := 302) (by omega) (by omega)).mp e; omega)]
    dsimp only [ltt]
    rw [k3, nI_1, l245_1 ((ge_n (by decide)).trans (k8.trans e8)), show gI (sI (yK σ a (t a)) 3 3 (nI (a + 1))) 3 5 = nI (t a) from (ge_n (by decide)).trans kc]
  · exact ⟨(ge_n (by decide)).trans (k2.trans e2), ge_s, (ge_n (by decide)).trans k4, (ge_n (by decide)).trans kc, fun e => by omega, fun e => by omega, (ge_n (by decide)).trans k7, (ge_n (by decide)).trans (k8.trans e8)⟩
end Lk
