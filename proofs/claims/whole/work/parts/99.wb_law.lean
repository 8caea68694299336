/-! ===== a law is read: one step there ===== -/
def tst (k : Nat) : Bool := decide (k = 1) || decide (k = 5)
theorem z10 : ((1 : Int32) = 0) = False := eq_false (by decide)
theorem bF {α : Type} (a b : α) : (if bi false = 0 then a else b) = a := if_pos rfl
theorem bT {α : Type} (a b : α) : (if bi true = 0 then a else b) = b := if_neg (by decide)
theorem nTF : ¬ true = false := Bool.noConfusion
theorem nFT : ¬ false = true := Bool.noConfusion
theorem rd_0 (N : Nat) (m : St) : f_X11_reads_43 (N + 1) 0 m = some ((), m) := by rw [e_X11_reads_43, if_pos rfl]
theorem rd_op {m m1 : St} {b : Bool} (N : Nat) (h48 : gI m 0 48 = 0) (he : f_X11_operand m = some (bi b, m1)) : f_X11_reads_43 (N + 1) 1 m = if gI m1 0 8 = 0 then f_X11_reads_43 N 1 (sI m1 0 48 (bi b)) else f_X11_reads_43 N 0 (sI m1 0 48 (bi b)) := by
  rw [e_X11_reads_43, if_neg (by decide), if_pos h48, he]
  dsimp only [Option.bind, ltt]
  rw [if_pos (zok_bi b), if_neg (by decide), ge_n (by decide)]
theorem rd_go {m m1 : St} {b : Bool} (N : Nat) (h48 : gI m 0 48 = 1) (he : f_X11_goesOn m = some (bi b, m1)) : f_X11_reads_43 (N + 1) 1 m = if b = false then f_X11_reads_43 N 0 m1 else if gI m1 0 8 = 0 then f_X11_reads_43 N 1 m1 else f_X11_reads_43 N 0 m1 := by
  rw [e_X11_reads_43, if_neg (by decide), if_neg (by rw [h48]; decide), he]
  dsimp only [Option.bind]
  cases b
  · rw [bF, if_pos rfl]
  · rw [bT, if_neg nTF]
theorem tst_M {k : Nat} (hk : k ≤ 5) (m : St) : f_X11_isTest (nI k) m = some (bi (tst k), m) := by
  have key : ∀ k, k ≤ 5 → (if nI k = (1 : Int32) then ((1 : Int32)) else (if nI k = (5 : Int32) then ((1 : Int32)) else ((0 : Int32)))) = bi (tst k) := by decide +kernel
  rw [e_X11_isTest, ← key k hk]
  repeat' split
  all_goals rfl
theorem sign_any (k : Int32) (m : St) : ∃ b : Bool, f_X11_isSign k m = some (bi b, m) := by
  rw [e_X11_isSign]
  repeat' split
  · exact ⟨true, rfl⟩
  · exact ⟨false, rfl⟩
  · exact ⟨false, rfl⟩
section Stp
variable {t : Nat → Nat} {n p c a e v ls ib A B D q bs k ph bg r : Nat} {pr : Int32} {l : List Nat} {ob : Bool} {x m x' m' x'' m'' : St}
theorem TS.s0 (hT : TS t n p c a e l v x m) (i : Nat) (hi : i < 256) (h : c ≠ i) : f_X11_isSign (nI i) m = some (0, m) := by rw [hT.sign hi, decide_eq_false h]; rfl
theorem TS.s1 (hT : TS t n p c a e l v x m) (i : Nat) (hi : i < 256) (h : c = i) : f_X11_isSign (nI i) m = some (1, m) := by rw [hT.sign hi, decide_eq_true h]; rfl
theorem TS.w0 (hT : TS t n p c a e l v x m) (i : Nat) (hi : i < 23) (h : c ≠ 400 + i) : f_X11_isWord (wl i) m = some (0, m) := by rw [hT.word hi, decide_eq_false h]; rfl
theorem TS.w1 (hT : TS t n p c a e l v x m) (i : Nat) (hi : i < 23) (h : c = 400 + i) : f_X11_isWord (wl i) m = some (1, m) := by rw [hT.word hi, decide_eq_true h]; rfl
def ari (c : Nat) : Prop := c = 43 ∨ c = 45 ∨ c = 42 ∨ c = 47 ∨ c = 37
def arR (c : Nat) : Nat := if c = 43 ∨ c = 45 then 5 else 6
def arO (c : Nat) : Nat := if c = 43 then 10 else if c = 45 then 11 else if c = 42 then 12 else if c = 47 then 13 else 14
theorem go_ar (hT : TS t n p c a e l v x m) (hM : LSt ib B D q bs k ph bg pr ob m) (hk : k ≤ 5) (hD : D < 20) (hph : ph < 2) (hc : ari c) : f_X11_goesOn m = f_X11_goesOn_99 (nI (arR c)) m := by
  obtain ⟨g38, g37, g44, g45, g47, g48, g26, g27, g28, g29, g30⟩ := hM
  rw [e_X11_goesOn]
  dsimp only [ltt]
  rw [g44, nI_pred, if_pos (inb_nI hD (by omega)), ix_nI (by omega), g26, tst_M hk]
  dsimp only [Option.bind]
  rw [if_pos (inb_nI hD (by omega)), g27, if_neg (show ¬ (2 : Int32) ≤ nI ph from nI_ge (b := 2) hph (by omega))]
  rcases hc with rfl | rfl | rfl | rfl | rfl
  · have s43 : f_X11_isSign 43 m = some (1, m) := hT.s1 43 (by omega) rfl
    simp only [s43, z10, if_false]; rfl
  · have s43 : f_X11_isSign 43 m = some (0, m) := hT.s0 43 (by omega) (by omega)
    have s45 : f_X11_isSign 45 m = some (1, m) := hT.s1 45 (by omega) rfl
    simp only [s43, s45, z10, if_false, if_true]; rfl
  · have s43 : f_X11_isSign 43 m = some (0, m) := hT.s0 43 (by omega) (by omega)
    have s45 : f_X11_isSign 45 m = some (0, m) := hT.s0 45 (by omega) (by omega)
    have s42 : f_X11_isSign 42 m = some (1, m) := hT.s1 42 (by omega) rfl
    simp only [s43, s45, s42, z10, if_false, if_true]; rfl
  · have s43 : f_X11_isSign 43 m = some (0, m) := hT.s0 43 (by omega) (by omega)
    have s45 : f_X11_isSign 45 m = some (0, m) := hT.s0 45 (by omega) (by omega)
    have s42 : f_X11_isSign 42 m = some (0, m) := hT.s0 42 (by omega) (by omega)
    have s47 : f_X11_isSign 47 m = some (1, m) := hT.s1 47 (by omega) rfl
    simp only [s43, s45, s42, s47, z10, if_false, if_true]; rfl
  · have s43 : f_X11_isSign 43 m = some (0, m) := hT.s0 43 (by omega) (by omega)
    have s45 : f_X11_isSign 45 m = some (0, m) := hT.s0 45 (by omega) (by omega)
    have s42 : f_X11_isSign 42 m = some (0, m) := hT.s0 42 (by omega) (by omega)
    have s47 : f_X11_isSign 47 m = some (0, m) := hT.s0 47 (by omega) (by omega)
    have s37 : f_X11_isSign 37 m = some (1, m) := hT.s1 37 (by omega) rfl
    simp only [s43, s45, s42, s47, s37, z10, if_false, if_true]; rfl
def cmp3 (c : Nat) : Prop := c = 60 ∨ c = 62 ∨ c = 61
def cmO (c : Nat) : Nat := if c = 60 then 17 else if c = 62 then 18 else 19
theorem go_no (hT : TS t n p c a e l v x m) (hM : LSt ib B D q bs k ph bg pr ob m) (hk : k ≤ 5) (hD : D < 20) (hph : ph ≤ 2) (hc : ph = 2 ∨ ¬ ari c) (h2 : tst k = false ∨ ph ≠ 0 ∨ ¬ cmp3 c) : f_X11_goesOn m = f_X11_goesOn_272 (nI D) (nI k) (bi (tst k)) m := by
  obtain ⟨g38, g37, g44, g45, g47, g48, g26, g27, g28, g29, g30⟩ := hM
  rw [e_X11_goesOn]
  dsimp only [ltt]
  rw [g44, nI_pred, if_pos (inb_nI hD (by omega)), ix_nI (by omega), g26, tst_M hk]
  dsimp only [Option.bind]
  rw [if_pos (inb_nI hD (by omega)), g27]
  have inner : (if bi (tst k) = 0 then f_X11_goesOn_272 (nI D) (nI k) (bi (tst k)) m else (if inb (nI D) 20 = true then (if nI ph = 0 then ((f_X11_isSign (60 : Int32) m).bind fun q342 => if q342.1 = 0 then ((f_X11_isSign (62 : Int32) q342.2).bind fun q343 => if q343.1 = 0 then ((f_X11_isSign (61 : Int32) q343.2).bind fun q344 => if q344.1 = 0 then (f_X11_goesOn_272 (nI D) (nI k) (bi (tst k)) q344.2) else (f_X11_goesOn_215 (nI D) q344.2)) else (f_X11_goesOn_215 (nI D) q343.2)) else (f_X11_goesOn_215 (nI D) q342.2)) else f_X11_goesOn_272 (nI D) (nI k) (bi (tst k)) m) else none)) = f_X11_goesOn_272 (nI D) (nI k) (bi (tst k)) m := by
    cases ht : tst k
    · rw [bF]
    · rw [bT, if_pos (inb_nI hD (by omega))]
      by_cases h0 : ph = 0
      · have h3 : ¬ cmp3 c := by
          rcases h2 with h2 | h2 | h2
          · rw [ht] at h2; cases h2
          · exact absurd h0 h2
          · exact h2
        unfold cmp3 at h3
        have s60 : f_X11_isSign 60 m = some (0, m) := hT.s0 60 (by omega) (by omega)
        have s62 : f_X11_isSign 62 m = some (0, m) := hT.s0 62 (by omega) (by omega)
        have s61 : f_X11_isSign 61 m = some (0, m) := hT.s0 61 (by omega) (by omega)
        rw [if_pos (by rw [h0]; rfl), s60]
        dsimp only [Option.bind]
        rw [if_pos rfl, s62]
        dsimp only
        rw [if_pos rfl, s61]
        dsimp only
        rw [if_pos rfl]
      · rw [if_neg (nI_ne0 (by omega) (by omega))]
  by_cases h2' : ph = 2
  · rw [if_pos (by rw [h2']; decide)]
    exact inner
  · have hc := hc.resolve_left h2'
    unfold ari at hc
    have s43 : f_X11_isSign 43 m = some (0, m) := hT.s0 43 (by omega) (by omega)
    have s45 : f_X11_isSign 45 m = some (0, m) := hT.s0 45 (by omega) (by omega)
    have s42 : f_X11_isSign 42 m = some (0, m) := hT.s0 42 (by omega) (by omega)
    have s47 : f_X11_isSign 47 m = some (0, m) := hT.s0 47 (by omega) (by omega)
    have s37 : f_X11_isSign 37 m = some (0, m) := hT.s0 37 (by omega) (by omega)
    rw [if_neg (show ¬ (2 : Int32) ≤ nI ph from nI_ge (b := 2) (by omega) (by omega)), s43]
    dsimp only
    rw [if_pos rfl, s45]
    dsimp only
    rw [if_pos rfl, s42]
    dsimp only
    rw [if_pos rfl, s47]
    dsimp only
    rw [if_pos rfl, s37]
    dsimp only
    rw [if_pos rfl, g27]
    exact inner
theorem go_cm (hT : TS t n p c a e l v x m) (hM : LSt ib B D q bs k ph bg pr ob m) (hk : k ≤ 5) (hD : D < 20) (hph : ph = 0) (ht : tst k = true) (hc : cmp3 c) : f_X11_goesOn m = f_X11_goesOn_215 (nI D) m := by
  obtain ⟨g38, g37, g44, g45, g47, g48, g26, g27, g28, g29, g30⟩ := hM
  have hc' : ¬ ari c := by unfold cmp3 at hc; unfold ari; omega
  unfold ari at hc'
  have s43 : f_X11_isSign 43 m = some (0, m) := hT.s0 43 (by omega) (by omega)
  have s45 : f_X11_isSign 45 m = some (0, m) := hT.s0 45 (by omega) (by omega)
  have s42 : f_X11_isSign 42 m = some (0, m) := hT.s0 42 (by omega) (by omega)
  have s47 : f_X11_isSign 47 m = some (0, m) := hT.s0 47 (by omega) (by omega)
  have s37 : f_X11_isSign 37 m = some (0, m) := hT.s0 37 (by omega) (by omega)
  rw [e_X11_goesOn]
  dsimp only [ltt]
  rw [g44, nI_pred, if_pos (inb_nI hD (by omega)), ix_nI (by omega), g26, tst_M hk]
  dsimp only [Option.bind]
  rw [if_pos (inb_nI hD (by omega)), g27, hph, if_neg (by decide), s43]
  dsimp only
  rw [if_pos rfl, s45]
  dsimp only
  rw [if_pos rfl, s42]
  dsimp only
  rw [if_pos rfl, s47]
  dsimp only
  rw [if_pos rfl, s37]
  dsimp only
  rw [if_pos rfl, ht, bT, if_pos (inb_nI hD (by omega)), g27, hph, if_pos (show nI 0 = 0 from rfl)]
  rcases hc with rfl | rfl | rfl
  · have s60 : f_X11_isSign 60 m = some (1, m) := hT.s1 60 (by omega) rfl
    rw [s60]; dsimp only; rw [if_neg (by decide)]
  · have s60 : f_X11_isSign 60 m = some (0, m) := hT.s0 60 (by omega) (by omega)
    have s62 : f_X11_isSign 62 m = some (1, m) := hT.s1 62 (by omega) rfl
    rw [s60]; dsimp only; rw [if_pos rfl, s62]; dsimp only; rw [if_neg (by decide)]
  · have s60 : f_X11_isSign 60 m = some (0, m) := hT.s0 60 (by omega) (by omega)
    have s62 : f_X11_isSign 62 m = some (0, m) := hT.s0 62 (by omega) (by omega)
    have s61 : f_X11_isSign 61 m = some (1, m) := hT.s1 61 (by omega) rfl
    rw [s60]; dsimp only; rw [if_pos rfl, s62]; dsimp only; rw [if_pos rfl, s61]; dsimp only; rw [if_neg (by decide)]
theorem hold_M {w : Int32} (g47 : gI m 0 47 = nI q) (hq : q < 500) : f_X11_holdsBack w m = some ((), sI (sI m 31 q w) 0 47 (nI (q + 1))) := by
  rw [e_X11_holdsBack, g47, if_pos (inb_nI hq (by omega)), ix_nI (by omega)]
  dsimp only [ltt]
  rw [show gI (sI m 31 q w) 0 47 = nI q from (ge_n (by omega)).trans g47, nI_1]
abbrev hoM (q : Nat) (w : Int32) (m : St) : St := sI (sI m 31 q w) 0 47 (nI (q + 1))
theorem hoM_f {w : Int32} : MF ib B D q m (hoM q w m) := (MF.s (by unfold MFx; omega)).tr (MF.s (by unfold MFx; omega)) (Nat.le_refl _) (Nat.le_refl _) (Nat.le_refl _)
theorem hoM_0 {w : Int32} : S0 m (hoM q w m) := (S0.s (by omega)).tr (S0.s (by omega))
theorem hoM_q {w : Int32} : gI (hoM q w m) 31 q = w := (ge_n (by omega)).trans ge_s
theorem LSt.ho {w : Int32} (h : LSt ib B D q bs k ph bg pr ob m) : LSt ib B D (q + 1) bs k ph bg pr ob (hoM q w m) := by
  have e : ∀ o j, o ≠ 31 → ¬ (o = 0 ∧ j = 47) → gI (hoM q w m) o j = gI m o j := fun o j h1 h2 => (ge_n (by omega)).trans (ge_n (by omega))
  obtain ⟨h1, h2, h3, h4, h5, h6, h7, h8, h9, h10, h11⟩ := h
  exact ⟨(e _ _ (by omega) (by omega)).trans h1, (e _ _ (by omega) (by omega)).trans h2, (e _ _ (by omega) (by omega)).trans h3, (e _ _ (by omega) (by omega)).trans h4, ge_s, (e _ _ (by omega) (by omega)).trans h6, (e _ _ (by omega) (by omega)).trans h7, (e _ _ (by omega) (by omega)).trans h8, (e _ _ (by omega) (by omega)).trans h9, (e _ _ (by omega) (by omega)).trans h10, (e _ _ (by omega) (by omega)).trans h11⟩
theorem LSt.s48 {b : Bool} (h : LSt ib B D q bs k ph bg pr ob m) : LSt ib B D q bs k ph bg pr b (sI m 0 48 (bi b)) := by
  obtain ⟨h1, h2, h3, h4, h5, h6, h7, h8, h9, h10, h11⟩ := h
  exact ⟨(ge_n (by omega)).trans h1, (ge_n (by omega)).trans h2, (ge_n (by omega)).trans h3, (ge_n (by omega)).trans h4, (ge_n (by omega)).trans h5, ge_s, (ge_n (by omega)).trans h7, (ge_n (by omega)).trans h8, (ge_n (by omega)).trans h9, (ge_n (by omega)).trans h10, (ge_n (by omega)).trans h11⟩
theorem LSt.s27 {b : Nat} (h : LSt ib B D q bs k ph bg pr ob m) : LSt ib B D q bs k b bg pr ob (sI m 27 D (nI b)) := by
  obtain ⟨h1, h2, h3, h4, h5, h6, h7, h8, h9, h10, h11⟩ := h
  exact ⟨(ge_n (by omega)).trans h1, (ge_n (by omega)).trans h2, (ge_n (by omega)).trans h3, (ge_n (by omega)).trans h4, (ge_n (by omega)).trans h5, (ge_n (by omega)).trans h6, (ge_n (by omega)).trans h7, ge_s, (ge_n (by omega)).trans h9, (ge_n (by omega)).trans h10, (ge_n (by omega)).trans h11⟩
theorem LSt.s28 {b : Nat} (h : LSt ib B D q bs k ph bg pr ob m) : LSt ib B D q bs k ph b pr ob (sI m 28 D (nI b)) := by
  obtain ⟨h1, h2, h3, h4, h5, h6, h7, h8, h9, h10, h11⟩ := h
  exact ⟨(ge_n (by omega)).trans h1, (ge_n (by omega)).trans h2, (ge_n (by omega)).trans h3, (ge_n (by omega)).trans h4, (ge_n (by omega)).trans h5, (ge_n (by omega)).trans h6, (ge_n (by omega)).trans h7, (ge_n (by omega)).trans h8, ge_s, (ge_n (by omega)).trans h10, (ge_n (by omega)).trans h11⟩
theorem LSt.s26 {b : Nat} (h : LSt ib B D q bs k ph bg pr ob m) : LSt ib B D q bs b ph bg pr ob (sI m 26 D (nI b)) := by
  obtain ⟨h1, h2, h3, h4, h5, h6, h7, h8, h9, h10, h11⟩ := h
  exact ⟨(ge_n (by omega)).trans h1, (ge_n (by omega)).trans h2, (ge_n (by omega)).trans h3, (ge_n (by omega)).trans h4, (ge_n (by omega)).trans h5, (ge_n (by omega)).trans h6, ge_s, (ge_n (by omega)).trans h8, (ge_n (by omega)).trans h9, (ge_n (by omega)).trans h10, (ge_n (by omega)).trans h11⟩
theorem LSt.s29 {b : Int32} (h : LSt ib B D q bs k ph bg pr ob m) : LSt ib B D q bs k ph bg b ob (sI m 29 D b) := by
  obtain ⟨h1, h2, h3, h4, h5, h6, h7, h8, h9, h10, h11⟩ := h
  exact ⟨(ge_n (by omega)).trans h1, (ge_n (by omega)).trans h2, (ge_n (by omega)).trans h3, (ge_n (by omega)).trans h4, (ge_n (by omega)).trans h5, (ge_n (by omega)).trans h6, (ge_n (by omega)).trans h7, (ge_n (by omega)).trans h8, (ge_n (by omega)).trans h9, ge_s, (ge_n (by omega)).trans h11⟩
end Stp
