/-! ===== names sought, new names, in both ===== -/
def fdN (fn : Nat → List Nat) (l : List Nat) : Nat → Nat → Int32
  | 0, _ => -1
  | d + 1, i => if fn i = l then nI i else fdN fn l d (i + 1)
theorem fdN_c (fn : Nat → List Nat) (l : List Nat) : ∀ d i, fdN fn l d i = -1 ∨ ∃ j, j < i + d ∧ fn j = l ∧ fdN fn l d i = nI j := by
  intro d
  induction d with
  | zero => intro i; exact .inl rfl
  | succ d ih =>
    intro i
    by_cases c : fn i = l
    · exact .inr ⟨i, by omega, c, by rw [fdN, if_pos c]⟩
    · rw [fdN, if_neg c]
      rcases ih (i + 1) with h | ⟨j, h1, h2, h3⟩
      · exact .inl h
      · exact .inr ⟨j, by omega, h2, h3⟩
def vN (l : List Nat) : Prop := 1 ≤ l.length ∧ l.length ≤ 6 ∧ ∀ c ∈ l, c < 26
theorem find_X {r s : Nat} {fn : Nat → List Nat} {l : List Nat} {σ : St} (e4 : gI σ r 4 = nI s) (hs : s ≤ lnX (r + 1)) (hln : lnX (r + 1) ≤ 100) (hl : vN l) (hN : ∀ i, i < s → vN (fn i) ∧ gI σ (r + 1) i = nI (pk5 (fn i))) : f_X8_find r (nI (pk5 l)) σ = some (fdN fn l s 0, σ) := by
  have key : ∀ d i N, i + d = s → d < N → f_X8_find_2 r N (nI (pk5 l)) (nI i) σ = some (fdN fn l d i, σ) := by
    intro d
    induction d with
    | zero =>
      intro i N hi hN
      obtain ⟨N, rfl⟩ : ∃ k, N = k + 1 := ⟨N - 1, by omega⟩
      rw [e_X8_find_2, e4, if_pos (nI_le (by omega) (by omega))]; rfl
    | succ d ih =>
      intro i N hi hN'
      obtain ⟨N, rfl⟩ : ∃ k, N = k + 1 := ⟨N - 1, by omega⟩
      obtain ⟨g1, g2⟩ := hN i (by omega)
      rw [e_X8_find_2, e4, if_neg (nI_ge (by omega) (by omega)), if_pos (inb_nI (by omega) (by omega)), ix_nI (by omega), g2, nI_1, ih (i + 1) N (by omega) (by omega), fdN]
      by_cases c : fn i = l
      · rw [if_pos c, if_pos (by rw [c])]
      · rw [if_neg c, if_neg (fun q => c ((pk5_eq g1.2.2 g1.2.1 hl.2.2 hl.2.1).mp q))]
  rw [e_X8_find]
  exact key s 0 FU (by omega) (by rw [FU_eq]; omega)
theorem named_M {s ib : Nat} {kd : Int32} {g : Nat → Int64} {fn : Nat → List Nat} {l : List Nat} {m : St} (h38 : gI m 0 38 = nI ib) (hs : s ≤ 100) (hl : vN l) (hg : ∀ i, i < s → f_X11_nameOf (nI ib) kd (nI i) m = some (g i, m)) (hN : ∀ i, i < s → vN (fn i) ∧ g i = lN (pk8 (fn i))) : f_X11_named_47 FU kd (lN (pk8 l)) (nI s) 0 m = some (fdN fn l s 0, m) := by
  have key : ∀ d i N, i + d = s → d < N → f_X11_named_47 N kd (lN (pk8 l)) (nI s) (nI i) m = some (fdN fn l d i, m) := by
    intro d
    induction d with
    | zero =>
      intro i N hi hN
      obtain ⟨N, rfl⟩ : ∃ k, N = k + 1 := ⟨N - 1, by omega⟩
      rw [e_X11_named_47, if_pos (nI_le (by omega) (by omega))]; rfl
    | succ d ih =>
      intro i N hi hN'
      obtain ⟨N, rfl⟩ : ∃ k, N = k + 1 := ⟨N - 1, by omega⟩
      obtain ⟨g1, g2⟩ := hN i (by omega)
      rw [e_X11_named_47, if_neg (nI_ge (by omega) (by omega)), h38, hg i (by omega)]
      dsimp only [Option.bind]
      rw [g2, nI_1, ih (i + 1) N (by omega) (by omega), fdN]
      by_cases c : fn i = l
      · rw [if_pos c, if_pos (by rw [cmp_0, c])]
      · rw [if_neg c, if_neg]
        rw [cmp_0, pk_lEQ (Nat.lt_trans (pk8_48 g1.2.2 g1.2.1) (by decide)) (Nat.lt_trans (pk8_48 hl.2.2 hl.2.1) (by decide))]
        exact fun q => c (pk8_inj g1.2.2 hl.2.2 q)
  exact key s 0 FU (by omega) (by rw [FU_eq]; omega)
theorem lnS {ls : Nat} (h : isLand ls) : lnX (ls + 1 + 1) = 8 ∧ lnX (ls + 1 + 2) = 24 ∧ lnX (ls + 4 + 1) = 12 ∧ lnX (ls + 4 + 2) = 24 ∧ lnX (ls + 7 + 1) = 6 ∧ lnX (ls + 7 + 2) = 12 ∧ lnX (ls + 10 + 1) = 8 ∧ lnX (ls + 10 + 2) = 24 ∧ lnX (ls + 13 + 1) = 4 ∧ lnX (ls + 13 + 2) = 4 := by
  rcases h with rfl | rfl <;> exact ⟨rfl, rfl, rfl, rfl, rfl, rfl, rfl, rfl, rfl, rfl⟩
theorem rlS {ls : Nat} (h : isLand ls) : (isRoll (ls + 1) ∧ rlim (ls + 1) = (8, 3)) ∧ (isRoll (ls + 4) ∧ rlim (ls + 4) = (12, 2)) ∧ (isRoll (ls + 7) ∧ rlim (ls + 7) = (6, 2)) ∧ (isRoll (ls + 10) ∧ rlim (ls + 10) = (8, 3)) ∧ (isRoll (ls + 13) ∧ rlim (ls + 13) = (4, 1)) := by
  rcases h with rfl | rfl <;> simp [isRoll, rlim]
section Nm
variable {t : Nat → Nat} {n p ls ib A B : Nat} {L : LD} {x m : St}
theorem f1_X (h : RP ls ib L x m A B) {l : List Nat} (hl : vN l) : f_X8_find (ls + 1) (nI (pk5 l)) x = some (fdN L.pn l L.np 0, x) := by
  have q := lnS h.1.1
  have hp := h.2.1.1.1
  exact find_X h.2.1.1.2.1 (by omega) (by omega) hl (fun i hi => ⟨⟨(h.2.1.2 i hi).1.1, (h.2.1.2 i hi).1.2.1, (h.2.1.2 i hi).1.2.2.1⟩, (h.2.1.2 i hi).1.2.2.2.1⟩)
theorem f2_X (h : RP ls ib L x m A B) {l : List Nat} (hl : vN l) : f_X8_find (ls + 4) (nI (pk5 l)) x = some (fdN L.tn l L.nt 0, x) := by
  have q := lnS h.1.1
  have hp := h.2.2.1.1.1
  exact find_X h.2.2.1.1.2.1 (by omega) (by omega) hl (fun i hi => ⟨⟨(h.2.2.1.2 i hi).1.1, (h.2.2.1.2 i hi).1.2.1, (h.2.2.1.2 i hi).1.2.2.1⟩, (h.2.2.1.2 i hi).1.2.2.2.1⟩)
theorem f3_X (h : RP ls ib L x m A B) {l : List Nat} (hl : vN l) : f_X8_find (ls + 13) (nI (pk5 l)) x = some (fdN L.bn l L.nb 0, x) := by
  have q := lnS h.1.1
  have hp := h.2.2.2.2.1.1.1
  exact find_X h.2.2.2.2.1.1.2.1 (by omega) (by omega) hl (fun i hi => ⟨⟨(h.2.2.2.2.1.2 i hi).1.1, (h.2.2.2.2.1.2 i hi).1.2.1, (h.2.2.2.2.1.2 i hi).1.2.2.1⟩, (h.2.2.2.2.1.2 i hi).1.2.2.2.1⟩)
theorem f1_M (h : RP ls ib L x m A B) {l : List Nat} (hl : vN l) : f_X11_named 0 (lN (pk8 l)) m = some (fdN L.pn l L.np 0, m) := by
  have hp := h.2.1.1.1
  have hib := h.1.2.1
  rw [e_X11_named, if_pos rfl, h.1.2.2.2.1, if_pos (bk_ix hib).1, (bk_ix hib).2]
  dsimp only [ltt]
  rw [h.2.1.1.2.2]
  exact named_M (g := fun i => gL m 4 (8 * ib + i)) h.1.2.2.2.1 (by omega) hl (fun i hi => by
    rw [e_X11_nameOf, if_pos rfl, show (8 : Int32) = nI 8 from rfl, pk_mul, nI_add, if_pos (inb_nI (by omega) (by omega)), ix_nI (by omega)]) (fun i hi => ⟨⟨(h.2.1.2 i hi).1.1, (h.2.1.2 i hi).1.2.1, (h.2.1.2 i hi).1.2.2.1⟩, (h.2.1.2 i hi).1.2.2.2.2⟩)
theorem f2_M (h : RP ls ib L x m A B) {l : List Nat} (hl : vN l) : f_X11_named 1 (lN (pk8 l)) m = some (fdN L.tn l L.nt 0, m) := by
  have hp := h.2.2.1.1.1
  have hib := h.1.2.1
  rw [e_X11_named, if_neg (by decide), if_pos rfl, h.1.2.2.2.1, if_pos (bk_ix hib).1, (bk_ix hib).2]
  dsimp only [ltt]
  rw [h.2.2.1.1.2.2]
  exact named_M (g := fun i => gL m 10 (12 * ib + i)) h.1.2.2.2.1 (by omega) hl (fun i hi => by
    rw [e_X11_nameOf, if_neg (by decide), if_pos rfl, show (12 : Int32) = nI 12 from rfl, pk_mul, nI_add, if_pos (inb_nI (by omega) (by omega)), ix_nI (by omega)]) (fun i hi => ⟨⟨(h.2.2.1.2 i hi).1.1, (h.2.2.1.2 i hi).1.2.1, (h.2.2.1.2 i hi).1.2.2.1⟩, (h.2.2.1.2 i hi).1.2.2.2.2⟩)
theorem f3_M (h : RP ls ib L x m A B) {l : List Nat} (hl : vN l) : f_X11_named 2 (lN (pk8 l)) m = some (fdN L.bn l L.nb 0, m) := by
  have hp := h.2.2.2.2.1.1.1
  have hib := h.1.2.1
  rw [e_X11_named, if_neg (by decide), if_neg (by decide), h.1.2.2.2.1, if_pos (bk_ix hib).1, (bk_ix hib).2]
  dsimp only [ltt]
  rw [h.2.2.2.2.1.1.2.2]
  exact named_M (g := fun i => gL m 21 (4 * ib + i)) h.1.2.2.2.1 (by omega) hl (fun i hi => by
    rw [e_X11_nameOf, if_neg (by decide), if_neg (by decide), show (4 : Int32) = nI 4 from rfl, pk_mul, nI_add, if_pos (inb_nI (by omega) (by omega)), ix_nI (by omega)]) (fun i hi => ⟨⟨(h.2.2.2.2.1.2 i hi).1.1, (h.2.2.2.2.1.2 i hi).1.2.1, (h.2.2.2.2.1.2 i hi).1.2.2.1⟩, (h.2.2.2.2.1.2 i hi).1.2.2.2.2⟩)
/-- a name that stands here -/
theorem TS.nm {c a e v : Nat} {l : List Nat} (hT : TS t n p c a e l v x m) (hc : c = 300) : vN l ∧ gI x 3 6 = nI (pk5 l) ∧ gL m 0 7 = lN (pk8 l) ∧ gI m 0 3 = 1 ∧ f_X11_isOwn (gL m 0 7) m = some (0, m) := by
  have h1 := hT.2.2.2.1.2.2.2.2.2.1 (.inl hc)
  have h2 := hT.2.2.2.2.2.2.2.2.2.2.2 (.inl hc)
  have h3 := hT.2.2.2.2.2.2.1
  have h4 := hT.own (.inl hc)
  rw [decide_eq_false (by omega)] at h4
  rw [if_neg (by omega), if_neg (by omega), if_neg (by omega)] at h3
  rcases hT.2.2.1.cd hT.1.1 with q | q | q | q
  · omega
  · omega
  · omega
  · exact ⟨⟨q.2.2.1, q.2.2.2.1, q.2.2.2.2.1⟩, h1, h2, h3, h4⟩
theorem TS.nw {c a e v : Nat} {l : List Nat} (hT : TS t n p c a e l v x m) (hc : c ≠ 300) : ¬ gI m 0 3 = 1 ∨ (gI m 0 3 = 1 ∧ f_X11_isOwn (gL m 0 7) m = some (1, m)) := by
  have h3 := hT.2.2.2.2.2.2.1
  rcases hT.2.2.1.cd hT.1.1 with q | q | q | q
  · left; rw [h3, if_pos q]; decide
  · left; rw [h3, if_neg (by omega), if_pos q]; decide
  · left; rw [h3, if_neg (by omega), if_neg (by omega), if_pos q.1]; decide
  · right
    have h4 := hT.own (by omega)
    rw [decide_eq_true (by omega)] at h4
    rw [if_neg (by omega), if_neg (by omega), if_neg (by omega)] at h3
    exact ⟨h3, h4⟩
theorem fr_b (N : Nat) (k : Int32) {m : St} (h : ¬ gI m 0 8 = 0) : f_X11_fresh_39 (N + 1) k m = some (gL m 0 7, m) := by
  rw [e_X11_fresh_39]
  dsimp only [ltt]
  rw [if_neg h, if_neg h]
  split <;> rfl
theorem addR {r s lim : Nat} {σ : St} (v : Int32) (e4 : gI σ r 4 = nI s) (e0 : gI σ r 0 = nI lim) (hs : s < lim) (hl : lim ≤ lnX (r + 1)) (hb : lnX (r + 1) ≤ 100) : f_X8_add r v σ = some (nI s, sI (sI σ (r + 1) s v) r 4 (nI (s + 1))) := by
  rw [e_X8_add, e_X8_isFull, e4, e0, if_pos (nI_lt hs (by omega))]
  dsimp only [Option.bind]
  rw [if_pos rfl, e4, if_pos (inb_nI (by omega) (by omega)), ix_nI (by omega)]
  dsimp only [ltt]
  rw [show gI (sI σ (r + 1) s v) r 4 = nI s from (ge_n (by omega)).trans e4, nI_1, ge_s, nI_pred]
theorem newB (h : NX t n p x m) (hP : RP ls ib L x m A B) {r s lim : Nat} (e4 : gI x r 4 = nI s) (e0 : gI x r 0 = nI lim) (hs : s < lim) (hl : lim ≤ lnX (r + 1)) (hb : lnX (r + 1) ≤ 100) (hr : 5 < r) : ∃ b x' m' w, f_X5_newName r x = some (bi b, x') ∧ f_X11_fresh m = some (w, m') ∧ TM m m' ∧ (¬ gI m 0 8 = 0 → b = false ∧ m' = m) ∧ ((b = true ∧ ∃ l p', NameR (nI (pk5 l)) w l ∧ TX (sI (sI x (r + 1) s (nI (pk5 l))) r 4 (nI (s + 1))) x' ∧ p < p' ∧ NX t n p' x' m') ∨ (b = false ∧ TX x x' ∧ Bd x' m')) := by
  rcases h.lk with ⟨x1, e1, e2, e3, g4⟩ | ⟨c, a, e, l, v, x1, e1, e2, e3, hT⟩
  · refine ⟨false, x1, m, 0, ?_, ?_, TM.rf _, fun _ => ⟨rfl, rfl⟩, .inr ⟨rfl, e2, g4⟩⟩
    · rw [e_X5_newName, e1]; dsimp only [Option.bind]; rw [if_neg (by decide), g4.here]; rfl
    · rw [e_X11_fresh, if_neg g4.f.2.1]
  have hcl := hT.cl
  have h0 := hT.2.2.2.2.1
  have hP1 : RP ls ib L x1 m A B := hP.t e2 (TM.rf _)
  obtain ⟨f, hf⟩ : ∃ f, FU = f + 4 := ⟨FU - 4, by rw [FU_eq]⟩
  have X := e_X5_newName r x
  have M := e_X11_fresh m
  rw [e1] at X
  dsimp only [Option.bind] at X
  rw [if_pos hT.le] at M
  by_cases hc : c = 300
  · obtain ⟨n1, n2, n3, n4, n5⟩ := hT.nm hc
    rw [if_pos (by rw [hc]; rfl)] at X
    dsimp only [ltt] at X
    rw [hP1.1.2.2.1, if_pos (landB_of hP.1.1), n2, e_X4_isNamed, f1_X hP1 n1] at X
    rw [if_pos n4, n5] at M
    dsimp only [Option.bind] at X M
    rw [f2_X hP1 n1] at X
    dsimp only at X
    rw [f3_X hP1 n1] at X
    dsimp only at X
    rw [if_pos (show (0 : Int32) = 0 from rfl), hf, show f + 4 = f + 3 + 1 from rfl, e_X11_fresh_39, if_neg (by decide), if_pos h0, n3, f1_M hP1 n1] at M
    dsimp only [Option.bind] at M
    obtain ⟨x2, m2, a1, a2, a3, a4, a5, a6, b3, b6, b7⟩ := hT.fail (k := 2) (by decide)
    have bad : f_X5_newName r x = some (0, x2) → f_X11_fresh m = some (gL m2 0 7, m2) → ∃ b x' m' w, f_X5_newName r x = some (bi b, x') ∧ f_X11_fresh m = some (w, m') ∧ TM m m' ∧ (¬ gI m 0 8 = 0 → b = false ∧ m' = m) ∧ ((b = true ∧ ∃ l p', NameR (nI (pk5 l)) w l ∧ TX (sI (sI x (r + 1) s (nI (pk5 l))) r 4 (nI (s + 1))) x' ∧ p < p' ∧ NX t n p' x' m') ∨ (b = false ∧ TX x x' ∧ Bd x' m')) :=
      fun q1 q2 => ⟨false, x2, m2, _, q1, q2, a4, fun q => absurd h0 q, .inr ⟨rfl, e2.tr a3, a6⟩⟩
    by_cases c1 : fdN L.pn l L.np 0 = -1
    · rw [if_pos c1] at X M
      rw [show f + 3 = f + 2 + 1 from rfl, show (0 : Int32) + 1 = 1 from rfl, e_X11_fresh_39, if_neg (by decide), if_pos h0, n3, f2_M hP1 n1] at M
      dsimp only [Option.bind] at M
      by_cases c2 : fdN L.tn l L.nt 0 = -1
      · rw [if_pos c2] at X M
        rw [show f + 2 = f + 1 + 1 from rfl, show (1 : Int32) + 1 = 2 from rfl, e_X11_fresh_39, if_neg (by decide), if_pos h0, n3, f3_M hP1 n1] at M
        dsimp only [Option.bind] at M
        by_cases c3 : fdN L.bn l L.nb 0 = -1
        · rw [if_pos c3] at X M
          rw [show (2 : Int32) + 1 = 3 from rfl, e_X11_fresh_39, if_pos (by decide)] at M
          dsimp only [ltt] at X M
          have e4' : gI x1 r 4 = nI s := (e2.1 r 4 (by omega) (by omega)).trans e4
          have e0' : gI x1 r 0 = nI lim := (e2.1 r 0 (by omega) (by omega)).trans e0
          rw [if_pos (show (0 : Int32) = 0 from rfl), n2, addR _ e4' e0' hs hl hb] at X
          dsimp only at X
          obtain ⟨m3, b1, b2, b3, b4, b5, b6, b7⟩ := (hT.c (x' := sI (sI x1 (r + 1) s (nI (pk5 l))) r 4 (nI (s + 1))) (m' := m) ((S3.s (by omega)).tr (S3.s (by omega))) (S0.rf _)).adv (by omega)
          rw [b1] at X
          rw [if_pos h0, b2, n3] at M
          exact ⟨true, _, m3, _, X, M, b5, fun q => absurd h0 q, .inl ⟨rfl, l, e, ⟨n1.1, n1.2.1, n1.2.2, rfl, rfl⟩, ((e2.w (by omega)).w (by omega)).tr b3, b6, b7⟩⟩
        · rw [if_neg c3] at X M
          dsimp only at X
          rw [if_neg (show ¬ (1 : Int32) = 0 by decide), show (2 : Int32) = nI 2 from rfl, a1] at X
          rw [show (2 : Int32) = nI 2 from rfl, a2] at M
          dsimp only at M
          rw [fr_b _ _ a6.f.1] at M
          exact bad X M
      · rw [if_neg c2] at X M
        dsimp only at X
        rw [if_neg (show ¬ (1 : Int32) = 0 by decide), show (2 : Int32) = nI 2 from rfl, a1] at X
        rw [show (2 : Int32) = nI 2 from rfl, a2] at M
        dsimp only at M
        rw [show f + 2 = f + 1 + 1 from rfl, fr_b _ _ a6.f.1] at M
        exact bad X M
    · rw [if_neg c1] at X M
      dsimp only at X
      rw [if_neg (show ¬ (1 : Int32) = 0 by decide), show (2 : Int32) = nI 2 from rfl, a1] at X
      rw [show (2 : Int32) = nI 2 from rfl, a2] at M
      dsimp only at M
      rw [show f + 3 = f + 2 + 1 from rfl, fr_b _ _ a6.f.1] at M
      exact bad X M
  · obtain ⟨x2, m2, a1, a2, a3, a4, a5, a6, b3, b6, b7⟩ := hT.fail (k := 1) (by decide)
    rw [if_neg (show ¬ nI c = (300 : Int32) from nI_ne (k := 300) hcl (by omega) hc), show (1 : Int32) = nI 1 from rfl, a1] at X
    refine ⟨false, x2, m2, gL m2 0 7, X, ?_, a4, fun q => absurd h0 q, .inr ⟨rfl, e2.tr a3, a6⟩⟩
    rw [M]
    rcases hT.nw hc with q | ⟨q1, q2⟩
    · rw [if_neg q, show (1 : Int32) = nI 1 from rfl, a2]
      dsimp only [Option.bind]
      rw [hf, fr_b _ _ a6.f.1]
    · rw [if_pos q1, q2]
      dsimp only [Option.bind]
      rw [if_neg (by decide), show (1 : Int32) = nI 1 from rfl, a2]
      dsimp only
      rw [hf, fr_b _ _ a6.f.1]
end Nm
