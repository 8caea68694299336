/-! ===== letters of a coat; common ===== -/
theorem loop_ex {α β : Type} (W : Nat → α → Nat → β) (R : α → β) (N : Nat) (P : Nat → α → Prop) (hx : ∀ n a, P N a → W (n + 1) a N = R a) (hs : ∀ n a i, i < N → P i a → ∃ a', W (n + 1) a i = W n a' (i + 1) ∧ P (i + 1) a') : ∀ d i a n, i + d = N → d < n → P i a → ∃ a', P N a' ∧ W n a i = R a' := by
  intro d
  induction d with
  | zero =>
    intro i a n hi hn hp
    obtain ⟨n, rfl⟩ : ∃ k, n = k + 1 := ⟨n - 1, by omega⟩
    rw [show i = N by omega] at hp ⊢
    exact ⟨a, hp, hx n a hp⟩
  | succ d ih =>
    intro i a n hi hn hp
    obtain ⟨n, rfl⟩ : ∃ k, n = k + 1 := ⟨n - 1, by omega⟩
    obtain ⟨a', e, hp'⟩ := hs n a i (by omega) hp
    rw [e]
    exact ih _ _ _ (by omega) (by omega) hp'
theorem loop_exF {α β : Type} (W : Nat → α → Nat → β) (R : α → β) (N : Nat) (hN : N < 90000) (P : Nat → α → Prop) (hx : ∀ n a, P N a → W (n + 1) a N = R a) (hs : ∀ n a i, i < N → P i a → ∃ a', W (n + 1) a i = W n a' (i + 1) ∧ P (i + 1) a') (a : α) (hp : P 0 a) : ∃ a', P N a' ∧ W FU a 0 = R a' :=
  loop_ex W R N P hx hs N 0 a FU (by omega) (by rw [FU_eq]; omega) hp
theorem scrP {ld bk : Nat} {L : LD} {x m x' m' : St} (hx : ScX x x') (hm : ScM m m') (hs : RSt ld x) (hb : RBk bk m) (hl : RLa ld bk L x m) (hd : RDy L x m) : RSt ld x' ∧ RBk bk m' ∧ RLa ld bk L x' m' ∧ RDy L x' m' := by
  obtain ⟨ld', bk', L', h1, h2, h3, ⟨e1, e2, e3⟩, h4⟩ := scrB (LW := fun a b c _ _ => a = ld ∧ b = bk ∧ c = L) (fun _ _ _ _ _ _ _ _ _ _ _ h => h) hx hm ⟨ld, bk, L, hs, hb, hl, ⟨rfl, rfl, rfl⟩, hd⟩
  subst e1 e2 e3
  exact ⟨h1, h2, h3, h4⟩
/-- the stores agree but for one object -/
def Same (r : Nat) (x σ : St) : Prop := (∀ o k, o ≠ r → gI σ o k = gI x o k) ∧ (∀ o k, gR σ o k = gR x o k) ∧ ∀ o k, gL σ o k = gL x o k
theorem Same.sI {r : Nat} {x σ : St} (h : Same r x σ) (k : Nat) (v : Int32) : Same r x (sI σ r k v) := ⟨fun o j ho => by rw [gI_sI, if_neg (fun q => ho q.1)]; exact h.1 o j ho, h.2.1, h.2.2⟩
theorem Same.sc {r : Nat} {x σ : St} (h : Same r x σ) (hr : xS r = true) : ScX x σ := ⟨fun o k e => h.1 o k (fun q => by rw [q, hr] at e; cases e), fun o k _ => h.2.1 o k, h.2.2 _ _⟩
def allS (x : St) (L : LD) (p k : Nat) : Int32 := itr (fun a t => if hasT x p t = true then a + nI ((L.tn t).count k) else a) L.nt (gI x 8 (26 * p + k)) 0
section Common
variable {ld bk : Nat} {L : LD} {x m : St}
theorem allOf_M (hb : RBk bk m) (hl : RLa ld bk L x m) (hd : RDy L x m) {p k : Nat} (hp : p < 8) (hk : k < 26) : f_X11_allOf (nI p) (nI k) m = some (allS x L p k, m) := by
  have h12 := hl.2.1.1
  obtain ⟨c, -, g1, g2⟩ := hd.2.2.2.2.1 (26 * p + k) (by omega)
  rw [e_X11_allOf, show (26 : Int32) = nI 26 from rfl, pk_mul, nI_add, if_pos (inb_nI (by omega) (by omega)), ix_nI (by omega), g2, ← g1]
  dsimp only [ltt]
  refine loop_fu (fun n a i => f_X11_allOf_15 n (nI p) (nI k) a (nI i) m) _ (fun a => some (a, m)) L.nt (by omega) ?_ ?_ _
  · intro n a
    rw [e_X11_allOf_15, hb.2, if_pos (bk_ix hb.1).1, (bk_ix hb.1).2, hl.2.1.2.2, if_pos (nI_le (Nat.le_refl _) (by omega))]
  · intro n a i hi
    rw [e_X11_allOf_15, hb.2, if_pos (bk_ix hb.1).1, (bk_ix hb.1).2, hl.2.1.2.2, if_neg (nI_ge hi (by omega)), hasT_M hl hd (by omega) (by omega), nI_1]
    dsimp only [Option.bind, ltt]
    cases hasT x p i
    · rw [if_pos (by decide), if_neg (by decide), Int32.add_zero]
    · rw [if_neg (by decide), if_pos rfl, often_M hb hl hi hk]
/-- one title's letters -/
theorem cl81_X {r : Nat} (hr : r = 11 ∨ r = 12) (K : Int32 → Int32 → St → Option (Unit × St)) {l : List Nat} (h : ∀ c ∈ l, c < 26) (h6 : l.length ≤ 6) (p t : Int32) {σ : St} (hσ : Same r x σ) : ∃ σ', Same r x σ' ∧ (∀ k, k < 26 → gI σ' r k = gI σ r k + nI (l.count k)) ∧ f_X2_countLetters_81 r K FU p t (nI (pk5 l)) (nI l.length) 0 σ = K p (t + 1) σ' := by
  have hln : lnX r = 26 := by rcases hr with rfl | rfl <;> rfl
  obtain ⟨σ', ⟨h1, h2⟩, e⟩ := loop_exF (fun n a i => f_X2_countLetters_81 r K n p t (nI (pk5 l)) (nI l.length) (nI i) a) (fun a => K p (t + 1) a) l.length (by omega) (fun i a => Same r x a ∧ ∀ k, k < 26 → gI a r k = gI σ r k + nI ((l.take i).count k)) (fun n a _ => by
      rw [e_X2_countLetters_81, if_pos (nI_le (Nat.le_refl _) (by omega))]) (fun n a i hi ⟨g1, g2⟩ => by
      have hl := h _ (List.getElem_mem hi)
      have e1 : (if inb (nI i) l.length = true then nI (l.getD (ix (nI i)) 0) else -1) = nI l[i] := by
        rw [if_pos (inb_nI hi (by omega)), ix_nI (by omega), show l.getD i 0 = l[i] by simp [List.getD, hi]]
      refine ⟨sI a r l[i] (gI a r l[i] + 1), ?_, g1.sI _ _, fun k hk => ?_⟩
      · rw [e_X2_countLetters_81, if_neg (nI_ge hi (by omega)), letter_X h h6, e1, hln]
        dsimp only [Option.bind, ltt]
        rw [if_neg (nI_pos (by omega)), if_neg (show ¬ Int32.ofNat 26 ≤ nI l[i] from nI_ge (b := 26) hl (by omega)), if_pos (inb_nI hl (by omega)), if_pos (inb_nI hl (by omega)), ix_nI (by omega), nI_1]
      · rw [gI_sI, List.take_succ_eq_append_getElem hi, List.count_append]
        by_cases q : k = l[i]
        · rw [if_pos ⟨rfl, q⟩, ← q, g2 k hk, Int32.add_assoc, nI_1, List.count_singleton_self]
        · rw [if_neg (fun w => q w.2), g2 k hk, List.count_singleton, if_neg (by simpa using fun w => q w.symm), Nat.add_zero]) σ ⟨hσ, fun k _ => by simp [show nI 0 = (0 : Int32) from rfl]⟩
  rw [List.take_length] at h2
  exact ⟨σ', h1, h2, e⟩
theorem hasT_S {r : Nat} {σ : St} (h : Same r x σ) (hr : r ≠ 7) (p t : Nat) : hasT σ p t = hasT x p t := by rw [hasT, hasT, h.1 7 p (by omega)]
theorem itr_snoc {α : Type} (g : α → Nat → α) : ∀ d a i, itr g (d + 1) a i = g (itr g d a i) (i + d) := by
  intro d
  induction d with
  | zero => intros; rfl
  | succ d ih => intro a i; rw [itr, ih]; rw [show itr g (d + 1) a i = itr g d (g a i) (i + 1) from rfl, show i + 1 + d = i + (d + 1) by omega]
theorem cl31_X {r : Nat} (hr : r = 11 ∨ r = 12) (hs : RSt ld x) (hb : RBk bk m) (hl : RLa ld bk L x m) (hd : RDy L x m) {p : Nat} (hp : p < L.np) {σ : St} (hσ : Same r x σ) (h0 : ∀ k, k < 26 → gI σ r k = gI x 8 (26 * p + k)) : ∃ σ', (Same r x σ' ∧ ∀ k, k < 26 → gI σ' r k = allS x L p k) ∧ f_X2_countLetters_31 r FU (nI p) 0 σ = some ((), σ') := by
  have h12 := hl.2.1.1
  have hxs : xS r = true := by rcases hr with rfl | rfl <;> rfl
  have hr7 : r ≠ 7 := by omega
  refine loop_exF (fun n a i => f_X2_countLetters_31 r n (nI p) (nI i) a) (fun a => some ((), a)) L.nt (by omega) (fun i a => Same r x a ∧ ∀ k, k < 26 → gI a r k = itr (fun a t => if hasT x p t = true then a + nI ((L.tn t).count k) else a) i (gI x 8 (26 * p + k)) 0) (fun n a ⟨g1, _⟩ => ?_) (fun n a i hi ⟨g1, g2⟩ => ?_) σ ⟨hσ, h0⟩
  · obtain ⟨s', b', l', d'⟩ := scrP (g1.sc hxs) (ScM.rf m) hs hb hl hd
    rw [e_X2_countLetters_31]
    dsimp only [ltt]
    rw [s'.1, if_pos (landB_of s'.2.1), l'.2.1.2.1, if_pos (nI_le (Nat.le_refl _) (by omega))]
  · obtain ⟨s', b', l', d'⟩ := scrP (g1.sc hxs) (ScM.rf m) hs hb hl hd
    have hh := hasT_S g1 hr7 p i
    obtain ⟨-, h6, hc⟩ := nmT l' hi
    cases q : hasT x p i
    · obtain ⟨σ', f1, f2, f3⟩ := cl81_X hr (f_X2_countLetters_31 r n) (l := []) (by simp) (by simp) (nI p) (nI i) g1
      refine ⟨σ', ?_, f1, fun k hk => ?_⟩
      · rw [e_X2_countLetters_31]
        dsimp only [ltt]
        rw [s'.1, if_pos (landB_of s'.2.1), l'.2.1.2.1, if_neg (nI_ge hi (by omega)), bears_X s' l' d' hp hi, hh, q]
        dsimp only [Option.bind]
        have e0 := len_X (l := []) (by simp) (by simp) a
        rw [show nI (pk5 []) = (0 : Int32) from rfl] at e0 f3
        rw [if_pos (by decide), e0]
        dsimp only
        rw [f3, nI_1]
      · rw [f2 k hk, g2 k hk, itr_snoc, Nat.zero_add, q, if_neg (by decide)]
        simp [show nI 0 = (0 : Int32) from rfl]
    · obtain ⟨σ', f1, f2, f3⟩ := cl81_X hr (f_X2_countLetters_31 r n) hc h6 (nI p) (nI i) g1
      refine ⟨σ', ?_, f1, fun k hk => ?_⟩
      · rw [e_X2_countLetters_31]
        dsimp only [ltt]
        rw [s'.1, if_pos (landB_of s'.2.1), l'.2.1.2.1, if_neg (nI_ge hi (by omega)), bears_X s' l' d' hp hi, hh, q]
        dsimp only [Option.bind]
        rw [if_neg (by decide), s'.1, if_pos (landB_of s'.2.1), nameT_X s' l' hi]
        dsimp only
        rw [len_X hc h6]
        dsimp only
        rw [f3, nI_1]
      · rw [f2 k hk, g2 k hk, itr_snoc, Nat.zero_add, q, if_pos rfl]
theorem cl_X {r : Nat} (hr : r = 11 ∨ r = 12) (hs : RSt ld x) (hb : RBk bk m) (hl : RLa ld bk L x m) (hd : RDy L x m) {p : Nat} (hp : p < L.np) : ∃ σ', (Same r x σ' ∧ ∀ k, k < 26 → gI σ' r k = allS x L p k) ∧ f_X2_countLetters r (nI p) x = some ((), σ') := by
  have h8 := hl.1.1
  have hln : lnX r = 26 := by rcases hr with rfl | rfl <;> rfl
  obtain ⟨σ1, ⟨h1, h2⟩, e⟩ := loop_exF (fun n a i => f_X2_countLetters_2 r n (nI p) (nI i) a) (fun a => f_X2_countLetters_31 r FU (nI p) 0 a) 26 (by omega) (fun i a => Same r x a ∧ ∀ k, k < i → gI a r k = gI x 8 (26 * p + k)) (fun n a _ => by
      rw [e_X2_countLetters_2, if_pos (show (26 : Int32) ≤ nI 26 by decide)]) (fun n a i hi ⟨g1, g2⟩ => by
      refine ⟨sI a r i (gI x 8 (26 * p + i)), ?_, g1.sI _ _, fun k hk => ?_⟩
      · rw [e_X2_countLetters_2, if_neg (show ¬ (26 : Int32) ≤ nI i from nI_ge (b := 26) hi (by omega)), hln, if_neg (show ¬ Int32.ofNat 26 ≤ nI i from nI_ge (b := 26) hi (by omega)), count_X (by omega) hi]
        dsimp only [Option.bind, ltt]
        rw [if_pos (inb_nI hi (by omega)), ix_nI (by omega), nI_1, g1.1 8 _ (by omega)]
      · rw [gI_sI]
        by_cases q : k = i
        · rw [if_pos ⟨rfl, q⟩, q]
        · rw [if_neg (fun w => q w.2), g2 k (by omega)]) x ⟨⟨fun _ _ _ => rfl, fun _ _ => rfl, fun _ _ => rfl⟩, fun k hk => by omega⟩
  obtain ⟨σ2, h3, e2⟩ := cl31_X hr hs hb hl hd hp h1 h2
  refine ⟨σ2, h3, ?_⟩
  rw [e_X2_countLetters]
  exact e.trans e2
theorem allS_c {x' : St} (h7 : ∀ k, gI x' 7 k = gI x 7 k) (h8 : ∀ k, gI x' 8 k = gI x 8 k) (p k : Nat) : allS x' L p k = allS x L p k := by
  have e : ∀ t, hasT x' p t = hasT x p t := fun t => by rw [hasT, hasT, h7]
  rw [allS, allS, h8]
  exact itr_congr (N := L.nt) (fun a i _ => by rw [e]) _ _ _ (by omega)
def comS (x : St) (ld : Nat) (L : LD) (p q : Nat) : Int32 := itr (fun a k => a + (if allS x L q k < allS x L p k then allS x L q k else allS x L p k) * gI x (ld + 16) k) 26 0 0
theorem com_X (hs : RSt ld x) (hb : RBk bk m) (hl : RLa ld bk L x m) (hd : RDy L x m) {p q : Nat} (hp : p < L.np) (hq : q < L.np) : ∃ σ', ScX x σ' ∧ f_X2_sharedOunces (nI p) (nI q) x = some (comS x ld L p q, σ') := by
  obtain ⟨σ1, ⟨h1, h2⟩, e1⟩ := cl_X (r := 11) (Or.inl rfl) hs hb hl hd hp
  obtain ⟨s', b', l', d'⟩ := scrP (h1.sc rfl) (ScM.rf m) hs hb hl hd
  obtain ⟨σ2, ⟨h3, h4⟩, e2⟩ := cl_X (r := 12) (Or.inr rfl) s' b' l' d' hq
  have hc : ScX x σ2 := (h1.sc rfl).tr (h3.sc rfl)
  refine ⟨σ2, hc, ?_⟩
  rw [e_X2_sharedOunces, e1]
  dsimp only [Option.bind]
  rw [e2]
  dsimp only
  refine loop_fu (fun n a i => f_X2_sharedOunces_23 n a (nI i) σ2) _ (fun a => some (a, σ2)) 26 (by omega) ?_ ?_ 0
  · intro n a
    rw [e_X2_sharedOunces_23, if_pos (show (26 : Int32) ≤ nI 26 by decide)]
  · intro n a i hi
    have gl : gI σ2 (ld + 16) i = gI x (ld + 16) i := hc.1 _ _ (by rcases hs.2.1 with rfl | rfl <;> rfl)
    have ga : gI σ2 11 i = allS x L p i := by rw [h3.1 11 i (by omega), h2 i hi]
    have gb : gI σ2 12 i = allS x L q i := by rw [h4 i hi]; exact allS_c (fun k => h1.1 7 k (by omega)) (fun k => h1.1 8 k (by omega)) q i
    have gr : gR σ2 6 0 = ld := by rw [hc.2.1 6 0 (by omega), hs.1]
    rw [e_X2_sharedOunces_23, if_neg (show ¬ (26 : Int32) ≤ nI i from nI_ge (b := 26) hi (by omega)), if_pos (inb_nI hi (by omega)), if_pos (inb_nI hi (by omega)), ix_nI (by omega), ga, gb, e_J9_min_7cf53, nI_1]
    by_cases c : allS x L q i < allS x L p i
    · rw [if_pos c, if_pos c]
      dsimp only [Option.bind, ltt]
      rw [gr, if_pos (landB_of hs.2.1), ouncesOf_X hi, gl]
    · rw [if_neg c, if_neg c]
      dsimp only [Option.bind, ltt]
      rw [gr, if_pos (landB_of hs.2.1), ouncesOf_X hi, gl]
theorem com_M (hb : RBk bk m) (hl : RLa ld bk L x m) (hd : RDy L x m) {p q : Nat} (hp : p < L.np) (hq : q < L.np) : f_X11_common_28 FU (nI p) (nI q) 0 0 m = some (comS x ld L p q, m) := by
  have h8 := hl.1.1
  refine loop_fu (fun n a i => f_X11_common_28 n (nI p) (nI q) a (nI i) m) _ (fun a => some (a, m)) 26 (by omega) ?_ ?_ 0
  · intro n a
    rw [e_X11_common_28, if_pos (show (26 : Int32) ≤ nI 26 by decide)]
  · intro n a i hi
    obtain ⟨o, -, -, g1, g2⟩ := hl.2.2.2.2.2.2.2.2.2 i hi
    rw [e_X11_common_28, if_neg (show ¬ (26 : Int32) ≤ nI i from nI_ge (b := 26) hi (by omega)), allOf_M hb hl hd (by omega) hi, nI_1]
    dsimp only [Option.bind, ltt]
    rw [allOf_M hb hl hd (by omega) hi]
    dsimp only
    rw [weight_M hb hi, g2, g1]
    dsimp only
    rw [Int32.mul_comm (nI o), Int32.mul_comm (nI o)]
    by_cases c : allS x L q i < allS x L p i
    · rw [if_pos c, if_pos (Int32.le_of_lt c)]
    · rw [if_neg c]
      by_cases c2 : allS x L q i ≤ allS x L p i
      · rw [if_pos c2, Int32.le_antisymm c2 (Int32.not_lt.mp c)]
      · rw [if_neg c2]
end Common
theorem step31 (LW : Nat → Nat → LD → St → St → Prop) (hc : CongrL LW) : Step_31 (RelOf (RelB LW)) := by
  intro a b x m h
  obtain ⟨hA, ld, bk, L, s1, hb, hla, hw, hd⟩ := id h
  have h8 := hla.1.1
  have X := e_X10_common a b x
  have M := e_X11_common a b m
  rw [isP_X s1 hla] at X
  rw [isP_M hb hla] at M
  dsimp only [Option.bind] at X M
  cases hp : inb a L.np
  · rw [hp, if_pos (by decide)] at X M
    exact ⟨_, _, _, X, M, h⟩
  rw [hp, if_neg (by decide)] at X M
  rw [isP_X s1 hla] at X
  rw [isP_M hb hla] at M
  dsimp only at X M
  cases hq : inb b L.np
  · rw [hq, if_pos (by decide)] at X M
    exact ⟨_, _, _, X, M, h⟩
  rw [hq, if_neg (by decide)] at X M
  by_cases c : a = b
  · rw [if_pos c] at X M
    exact ⟨_, _, _, X, M, h⟩
  rw [if_neg c] at X M
  obtain ⟨p, hp', rfl⟩ := inb_of hp (by omega)
  obtain ⟨q, hq', rfl⟩ := inb_of hq (by omega)
  obtain ⟨σ', hS, e⟩ := com_X s1 hb hla hd hp' hq'
  rw [e] at X
  rw [com_M hb hla hd hp' hq'] at M
  exact ⟨_, _, _, X, M, scr hc hS (ScM.rf m) h⟩
