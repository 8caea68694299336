/-! ===== groups of persons over a bridge: what both mean ===== -/
def psum (w : Nat → Nat) : Nat → (Nat → Bool) → Nat
  | 0, _ => 0
  | n + 1, Q => psum w n Q + if Q n = true then w n else 0
theorem psum_congr {w : Nat → Nat} {n : Nat} {Q Q' : Nat → Bool} (h : ∀ p, p < n → Q p = Q' p) : psum w n Q = psum w n Q' := by
  induction n with
  | zero => rfl
  | succ n ih => rw [psum, psum, ih (fun p hp => h p (by omega)), h n (by omega)]
theorem psum_le {w : Nat → Nat} {n : Nat} {Q Q' : Nat → Bool} (h : ∀ p, p < n → Q p = true → Q' p = true) : psum w n Q ≤ psum w n Q' := by
  induction n with
  | zero => exact Nat.le_refl _
  | succ n ih =>
    have := ih (fun p hp => h p (by omega))
    rw [psum, psum]
    by_cases c : Q n = true
    · rw [if_pos c, if_pos (h n (by omega) c)]; omega
    · rw [if_neg c]; omega
theorem psum_one {w : Nat → Nat} {n : Nat} {Q : Nat → Bool} {p : Nat} (hp : p < n) (hq : Q p = true) : w p ≤ psum w n Q := by
  induction n with
  | zero => omega
  | succ n ih =>
    rw [psum]
    by_cases c : p = n
    · subst c; rw [if_pos hq]; omega
    · have := ih (by omega)
      omega
theorem psum_no {w : Nat → Nat} {n : Nat} {Q : Nat → Bool} (h : ∀ p, p < n → Q p = false) : psum w n Q = 0 := by
  induction n with
  | zero => rfl
  | succ n ih => rw [psum, ih (fun p hp => h p (by omega)), h n (by omega)]; rfl
theorem psum_only {w : Nat → Nat} {n : Nat} {Q : Nat → Bool} {q : Nat} (h : ∀ p, p < n → Q p = true → p = q) : psum w n Q ≤ w q := by
  induction n with
  | zero => exact Nat.zero_le _
  | succ n ih =>
    rw [psum]
    by_cases c : Q n = true
    · have e := h n (by omega) c
      rw [if_pos c, psum_no, ← e, Nat.zero_add]
      · exact Nat.le_refl _
      · intro p hp
        cases w : Q p
        · rfl
        · have := h p (by omega) w
          omega
    · rw [if_neg c]
      exact ih (fun p hp => h p (by omega))
theorem bsum_p (w : Nat → Nat) (n k : Nat) : bsum w n k = psum w n k.testBit := by
  induction n with
  | zero => rfl
  | succ n ih => rw [bsum, psum, ih]
def Fit (w : Nat → Nat) (n C : Nat) (Q : Nat → Bool) (T : Nat) : Prop := ∃ f : Nat → Nat, (∀ p, p < n → Q p = true → f p < T) ∧ ∀ g, g < T → psum w n (fun p => Q p && decide (f p = g)) ≤ C
theorem Fit.congr {w : Nat → Nat} {n C T : Nat} {Q Q' : Nat → Bool} (h : ∀ p, p < n → Q p = Q' p) (hf : Fit w n C Q T) : Fit w n C Q' T := by
  obtain ⟨f, h1, h2⟩ := hf
  refine ⟨f, fun p hp hq => h1 p hp (by rw [h p hp]; exact hq), fun g hg => ?_⟩
  rw [psum_congr (Q' := fun p => Q p && decide (f p = g)) (fun p hp => by rw [h p hp])]
  exact h2 g hg
theorem Fit.ad {w : Nat → Nat} {n C a b : Nat} {Q Q1 Q2 : Nat → Bool} (h : ∀ p, p < n → Q p = (Q1 p || Q2 p)) (hd : ∀ p, p < n → Q1 p = true → Q2 p = false) (h1 : Fit w n C Q1 a) (h2 : Fit w n C Q2 b) : Fit w n C Q (a + b) := by
  obtain ⟨f1, a1, a2⟩ := h1
  obtain ⟨f2, b1, b2⟩ := h2
  obtain ⟨F, F1, F2⟩ : ∃ F : Nat → Nat, (∀ p, Q1 p = true → F p = f1 p) ∧ ∀ p, Q1 p = false → F p = a + f2 p := ⟨fun p => if Q1 p = true then f1 p else a + f2 p, fun p h => if_pos h, fun p h => if_neg (by rw [h]; decide)⟩
  refine ⟨F, fun p hp hq => ?_, fun g hg => ?_⟩
  · cases c : Q1 p
    · rw [F2 p c]
      rw [h p hp, c, Bool.false_or] at hq
      have := b1 p hp hq; omega
    · rw [F1 p c]; have := a1 p hp c; omega
  · by_cases cg : g < a
    · rw [psum_congr (Q' := fun p => Q1 p && decide (f1 p = g))]
      · exact a2 g cg
      · intro p hp
        rw [h p hp]
        cases c : Q1 p
        · rw [Bool.false_or, Bool.false_and, decide_eq_false (by rw [F2 p c]; omega), Bool.and_false]
        · rw [Bool.true_or, Bool.true_and, Bool.true_and, F1 p c]
    · rw [psum_congr (Q' := fun p => Q2 p && decide (f2 p = g - a))]
      · exact b2 (g - a) (by omega)
      · intro p hp
        rw [h p hp]
        cases c : Q1 p
        · rw [Bool.false_or, decide_eq_decide.mpr (show F p = g ↔ f2 p = g - a by rw [F2 p c]; omega)]
        · have := a1 p hp c
          rw [hd p hp c, decide_eq_false (show ¬ F p = g by rw [F1 p c]; omega)]; rfl
theorem Fit.one {w : Nat → Nat} {n C : Nat} {Q : Nat → Bool} : Fit w n C Q 1 ↔ psum w n Q ≤ C := by
  constructor
  · rintro ⟨f, h1, h2⟩
    have := h2 0 (by omega)
    rw [psum_congr (Q' := Q)] at this
    · exact this
    · intro p hp
      cases c : Q p
      · rfl
      · have := h1 p hp c
        rw [decide_eq_true (by omega)]; rfl
  · intro h
    obtain ⟨F, F0⟩ : ∃ F : Nat → Nat, ∀ p, F p = 0 := ⟨fun _ => 0, fun _ => rfl⟩
    refine ⟨F, fun p hp hq => by rw [F0]; omega, fun g hg => ?_⟩
    rw [psum_congr (Q' := Q)]
    · exact h
    · intro p hp
      rw [decide_eq_true (by rw [F0]; omega), Bool.and_true]
theorem Fit.zero {w : Nat → Nat} {n C : Nat} {Q : Nat → Bool} (h : Fit w n C Q 0) : ∀ p, p < n → Q p = false := by
  obtain ⟨f, h1, -⟩ := h
  intro p hp
  cases c : Q p
  · rfl
  · have := h1 p hp c; omega
theorem Fit.all {w : Nat → Nat} {n C T : Nat} {Q : Nat → Bool} (h : Fit w n C Q T) : ∀ p, p < n → Q p = true → w p ≤ C := by
  obtain ⟨f, h1, h2⟩ := h
  intro p hp hq
  refine Nat.le_trans ?_ (h2 (f p) (h1 p hp hq))
  exact psum_one (Q := fun q => Q q && decide (f q = f p)) hp (by rw [hq, decide_eq_true rfl]; rfl)
theorem Fit.each {w : Nat → Nat} {n C : Nat} {Q : Nat → Bool} (h : ∀ p, p < n → Q p = true → w p ≤ C) : Fit w n C Q n := by
  refine ⟨fun p => p, fun p hp _ => hp, fun g hg => ?_⟩
  by_cases c : Q g = true
  · refine Nat.le_trans (psum_only (q := g) ?_) (h g hg c)
    intro p hp hq
    rw [Bool.and_eq_true, decide_eq_true_iff] at hq
    exact hq.2
  · rw [psum_no]
    · exact Nat.zero_le _
    · intro p hp
      by_cases e : p = g
      · subst e
        rw [Bool.not_eq_true] at c
        rw [c]; rfl
      · rw [decide_eq_false e, Bool.and_false]
theorem Fit.split {w : Nat → Nat} {n C k : Nat} {Q : Nat → Bool} (h : Fit w n C Q (k + 1)) : ∃ R : Nat → Bool, psum w n (fun p => Q p && R p) ≤ C ∧ Fit w n C (fun p => Q p && !R p) k := by
  obtain ⟨f, h1, h2⟩ := h
  refine ⟨fun p => decide (f p = k), h2 k (by omega), f, fun p hp hq => ?_, fun g hg => ?_⟩
  · rw [Bool.and_eq_true, Bool.not_eq_true', decide_eq_false_iff_not] at hq
    have := h1 p hp hq.1
    omega
  · refine Nat.le_trans (psum_le ?_) (h2 g (by omega))
    intro p hp hq
    dsimp only at hq ⊢
    rw [Bool.and_eq_true, Bool.and_eq_true] at hq
    rw [hq.1.1, hq.2]; rfl
/-- the fewest groups -/
def GRo (w : Nat → Nat) (n C : Nat) (Q : Nat → Bool) (o : Option Nat) : Prop := (∀ k, o = some k → Fit w n C Q k) ∧ ∀ j, Fit w n C Q j → ∃ k, o = some k ∧ k ≤ j
theorem GRo.un {w : Nat → Nat} {n C : Nat} {Q : Nat → Bool} {o o' : Option Nat} (h : GRo w n C Q o) (g : GRo w n C Q o') : o = o' := by
  cases o with
  | none =>
    cases o' with
    | none => rfl
    | some k =>
      obtain ⟨j, e, -⟩ := h.2 k (g.1 k rfl)
      cases e
  | some k =>
    obtain ⟨j, e, h1⟩ := g.2 k (h.1 k rfl)
    obtain ⟨i, e', h2⟩ := h.2 j (g.1 j e)
    cases e'
    rw [e, show j = k by omega]
theorem GRo.le {w : Nat → Nat} {n C : Nat} {Q : Nat → Bool} {k : Nat} (h : GRo w n C Q (some k)) : k ≤ n := by
  obtain ⟨j, e, h1⟩ := h.2 n (Fit.each (h.1 k rfl).all)
  cases e
  exact h1
theorem GRo.congr {w : Nat → Nat} {n C : Nat} {Q Q' : Nat → Bool} (h : ∀ p, p < n → Q p = Q' p) {o : Option Nat} (g : GRo w n C Q o) : GRo w n C Q' o :=
  ⟨fun k e => (g.1 k e).congr h, fun j hj => g.2 j (hj.congr (fun p hp => (h p hp).symm))⟩
-- the search of the class: persons in a row, each into a group that stands, or into a new one
def updN (f : Nat → Nat) (k v : Nat) (j : Nat) : Nat := if j = k then v else f j
def Ext (w : Nat → Nat) (C : Nat) : List Nat → Nat → (Nat → Nat) → Nat → Prop
  | [], k, _, t => t = k
  | p :: ps, k, gl, t => (∃ g, g < k ∧ gl g + w p ≤ C ∧ Ext w C ps k (updN gl g (gl g + w p)) t) ∨ Ext w C ps (k + 1) (updN gl k (w p)) t
def ls (w : Nat → Nat) (f : Nat → Nat) : List Nat → Nat → Nat
  | [], _ => 0
  | p :: ps, g => (if f p = g then w p else 0) + ls w f ps g
theorem ls_c {w f f' : Nat → Nat} {ps : List Nat} (h : ∀ p ∈ ps, f p = f' p) (g : Nat) : ls w f ps g = ls w f' ps g := by
  induction ps with
  | nil => rfl
  | cons p ps ih => rw [ls, ls, ih (fun q hq => h q (List.mem_cons_of_mem _ hq)), h p List.mem_cons_self]
theorem Ext.ge {w : Nat → Nat} {C : Nat} {ps : List Nat} : ∀ {k gl t}, Ext w C ps k gl t → k ≤ t := by
  induction ps with
  | nil => intro k gl t h; exact Nat.le_of_eq h.symm
  | cons p ps ih =>
    intro k gl t h
    rcases h with ⟨g, -, -, h⟩ | h
    · exact ih h
    · have := ih h; omega
theorem Ext.snd {w : Nat → Nat} {C : Nat} {ps : List Nat} (nd : ps.Nodup) (hw : ∀ p ∈ ps, w p ≤ C) : ∀ {k gl t}, (∀ g, g < k → gl g ≤ C) → Ext w C ps k gl t → ∃ f : Nat → Nat, (∀ p ∈ ps, f p < t) ∧ ∀ g, g < t → (if g < k then gl g else 0) + ls w f ps g ≤ C := by
  induction ps with
  | nil =>
    intro k gl t hg h
    have h : t = k := h
    subst h
    refine ⟨fun _ => 0, fun p hp => (by cases hp), fun g hg' => ?_⟩
    rw [if_pos hg']
    exact hg g hg'
  | cons p ps ih =>
    intro k gl t hg h
    obtain ⟨np, nd'⟩ := List.nodup_cons.mp nd
    have hw' : ∀ q ∈ ps, w q ≤ C := fun q hq => hw q (List.mem_cons_of_mem _ hq)
    have hwp := hw p List.mem_cons_self
    have key : ∀ (f : Nat → Nat) (a g : Nat), ls w (fun q => if q = p then a else f q) (p :: ps) g = (if a = g then w p else 0) + ls w f ps g := by
      intro f a g
      rw [ls, if_pos rfl, ls_c (f' := f) (fun q hq => by
        rw [if_neg (fun e => np (by rw [← e]; exact hq))])]
    rcases h with ⟨g0, h1, h2, h3⟩ | h
    · have ge := h3.ge
      obtain ⟨f, f1, f2⟩ := ih nd' hw' (fun g h => by unfold updN; split; exact h2; exact hg g h) h3
      refine ⟨fun q => if q = p then g0 else f q, fun q hq => ?_, fun g hgt => ?_⟩
      · dsimp only
        by_cases c : q = p
        · rw [if_pos c]; omega
        · rw [if_neg c]
          rcases List.mem_cons.mp hq with e | e
          · exact absurd e c
          · exact f1 q e
      · rw [key]
        have := f2 g hgt
        unfold updN at this
        by_cases c : g = g0
        · subst c
          rw [if_pos h1] at this ⊢
          rw [if_pos rfl] at this ⊢
          omega
        · rw [if_neg c] at this
          rw [if_neg (show ¬ g0 = g from fun e => c e.symm)]
          omega
    · have ge := h.ge
      obtain ⟨f, f1, f2⟩ := ih nd' hw' (fun g h => by unfold updN; split; exact hwp; exact hg g (by omega)) h
      refine ⟨fun q => if q = p then k else f q, fun q hq => ?_, fun g hgt => ?_⟩
      · dsimp only
        by_cases c : q = p
        · rw [if_pos c]; omega
        · rw [if_neg c]
          rcases List.mem_cons.mp hq with e | e
          · exact absurd e c
          · exact f1 q e
      · rw [key]
        have := f2 g hgt
        unfold updN at this
        by_cases c : g = k
        · subst c
          rw [if_pos (by omega), if_pos rfl] at this
          rw [if_neg (by omega), if_pos rfl]
          omega
        · rw [if_neg c] at this
          rw [if_neg (show ¬ k = g from fun e => c e.symm)]
          by_cases c2 : g < k
          · rw [if_pos (by omega)] at this
            rw [if_pos c2]; omega
          · rw [if_neg (by omega)] at this
            rw [if_neg c2]; omega
def sw (a b j : Nat) : Nat := if j = a then b else if j = b then a else j
theorem sw_eq (a b j g : Nat) : sw a b j = g ↔ j = sw a b g := by
  unfold sw
  constructor
  · intro h
    by_cases c1 : j = a
    · rw [if_pos c1] at h
      by_cases c2 : g = a
      · rw [if_pos c2]; omega
      · rw [if_neg c2, if_pos h.symm]; exact c1
    · rw [if_neg c1] at h
      by_cases c3 : j = b
      · rw [if_pos c3] at h
        rw [if_pos h.symm]; exact c3
      · rw [if_neg c3] at h
        rw [if_neg (by omega), if_neg (by omega)]; exact h
  · intro h
    by_cases c1 : g = a
    · rw [if_pos c1] at h
      by_cases c2 : j = a
      · rw [if_pos c2]; omega
      · rw [if_neg c2, if_pos h]; exact c1.symm
    · rw [if_neg c1] at h
      by_cases c3 : g = b
      · rw [if_pos c3] at h
        rw [if_pos h]; exact c3.symm
      · rw [if_neg c3] at h
        rw [if_neg (by omega), if_neg (by omega)]; exact h
theorem ls_sw {w f : Nat → Nat} (a b : Nat) (ps : List Nat) (g : Nat) : ls w (fun p => sw a b (f p)) ps g = ls w f ps (sw a b g) := by
  induction ps with
  | nil => rfl
  | cons p ps ih =>
    rw [ls, ls, ih]
    congr 1
    by_cases c : f p = sw a b g
    · rw [if_pos c, if_pos ((sw_eq a b _ _).mpr c)]
    · rw [if_neg c, if_neg (fun e => c ((sw_eq a b _ _).mp e))]
theorem Ext.cpl {w : Nat → Nat} {C : Nat} {ps : List Nat} : ∀ {k gl T} {f : Nat → Nat}, (∀ g, k ≤ g → gl g = 0) → k ≤ T → (∀ p ∈ ps, f p < T) → (∀ g, g < T → gl g + ls w f ps g ≤ C) → ∃ t, t ≤ T ∧ Ext w C ps k gl t := by
  induction ps with
  | nil => intro k gl T f h0 hk h1 h2; exact ⟨k, hk, rfl⟩
  | cons p ps ih =>
    intro k gl T f h0 hk h1 h2
    have hp := h1 p List.mem_cons_self
    have h1' : ∀ q ∈ ps, f q < T := fun q hq => h1 q (List.mem_cons_of_mem _ hq)
    by_cases c : f p < k
    · have hs := h2 (f p) hp
      rw [ls, if_pos rfl] at hs
      obtain ⟨t, ht, e⟩ := ih (k := k) (gl := updN gl (f p) (gl (f p) + w p)) (T := T) (f := f) (fun g hg => by rw [updN, if_neg (by omega)]; exact h0 g hg) hk h1' (fun g hg => by
        have := h2 g hg
        rw [ls] at this
        unfold updN
        by_cases e : g = f p
        · rw [if_pos e]; rw [if_pos e.symm] at this; rw [e] at this ⊢; omega
        · rw [if_neg e]; rw [if_neg (fun q => e q.symm)] at this; omega)
      exact ⟨t, ht, Or.inl ⟨f p, c, by omega, e⟩⟩
    · obtain ⟨t, ht, e⟩ := ih (k := k + 1) (gl := updN gl k (w p)) (T := T) (f := fun q => sw (f p) k (f q)) (fun g hg => by rw [updN, if_neg (by omega)]; exact h0 g (by omega)) (by omega) (fun q hq => by
        have := h1' q hq
        dsimp only [sw]
        split
        · omega
        · split <;> omega) (fun g hg => by
        rw [ls_sw]
        have k1 := h2 (sw (f p) k g) (by unfold sw; split; omega; split <;> omega)
        rw [ls] at k1
        unfold updN
        by_cases e : g = k
        · rw [if_pos e]
          have : sw (f p) k g = f p := by unfold sw; split; omega; rfl
          rw [this] at k1 ⊢
          rw [if_pos rfl] at k1
          omega
        · rw [if_neg e]
          by_cases e2 : g = f p
          · rw [h0 g (by omega)]
            omega
          · have : sw (f p) k g = g := by unfold sw; rw [if_neg e2, if_neg e]
            rw [this] at k1 ⊢
            omega)
      exact ⟨t, ht, Or.inr e⟩
def lm (Q : Nat → Bool) : Nat → List Nat
  | 0 => []
  | n + 1 => lm Q n ++ if Q n = true then [n] else []
theorem ls_app (w f : Nat → Nat) (a b : List Nat) (g : Nat) : ls w f (a ++ b) g = ls w f a g + ls w f b g := by
  induction a with
  | nil => rw [List.nil_append, ls, Nat.zero_add]
  | cons p a ih => rw [List.cons_append, ls, ls, ih]; omega
theorem lm_s (w f : Nat → Nat) (Q : Nat → Bool) (n g : Nat) : ls w f (lm Q n) g = psum w n (fun p => Q p && decide (f p = g)) := by
  induction n with
  | zero => rfl
  | succ n ih =>
    rw [lm, ls_app, ih, psum]
    congr 1
    cases Q n
    · rfl
    · rw [if_pos rfl, ls, ls, Nat.add_zero, Bool.true_and]
      by_cases c : f n = g
      · rw [if_pos c, if_pos (decide_eq_true c)]
      · rw [if_neg c, if_neg (by rw [decide_eq_false c]; decide)]
theorem lm_m {Q : Nat → Bool} {n p : Nat} : p ∈ lm Q n ↔ p < n ∧ Q p = true := by
  induction n with
  | zero => simp [lm]
  | succ n ih =>
    rw [lm, List.mem_append, ih]
    cases c : Q n
    · rw [if_neg (by decide)]
      constructor
      · rintro (h | h)
        · exact ⟨by omega, h.2⟩
        · cases h
      · rintro ⟨h1, h2⟩
        have : p ≠ n := fun e => by rw [e, c] at h2; cases h2
        exact Or.inl ⟨by omega, h2⟩
    · rw [if_pos rfl]
      constructor
      · rintro (h | h)
        · exact ⟨by omega, h.2⟩
        · have := List.mem_singleton.mp h
          subst this
          exact ⟨by omega, c⟩
      · rintro ⟨h1, h2⟩
        by_cases e : p = n
        · exact Or.inr (by rw [e]; exact List.mem_singleton.mpr rfl)
        · exact Or.inl ⟨by omega, h2⟩
theorem lm_nd {Q : Nat → Bool} {n : Nat} : (lm Q n).Nodup := by
  induction n with
  | zero => exact List.nodup_nil
  | succ n ih =>
    rw [lm]
    cases Q n
    · rw [if_neg (by decide), List.append_nil]; exact ih
    · rw [if_pos rfl, List.nodup_append]
      refine ⟨ih, List.nodup_cons.mpr ⟨List.not_mem_nil, List.nodup_nil⟩, ?_⟩
      intro a ha b hb
      have := (lm_m.mp ha).1
      have := List.mem_singleton.mp hb
      omega
theorem lm_len {Q : Nat → Bool} {n : Nat} : (lm Q n).length ≤ n := by
  induction n with
  | zero => exact Nat.le_refl _
  | succ n ih => rw [lm, List.length_append]; split <;> simp <;> omega
theorem Ext.fit {w : Nat → Nat} {C n : Nat} {Q : Nat → Bool} (hw : ∀ p, p < n → Q p = true → w p ≤ C) {gl : Nat → Nat} {t : Nat} (h : Ext w C (lm Q n) 0 gl t) : Fit w n C Q t := by
  obtain ⟨f, f1, f2⟩ := h.snd lm_nd (fun p hp => hw p (lm_m.mp hp).1 (lm_m.mp hp).2) (fun g hg => by omega)
  refine ⟨f, fun p hp hq => f1 p (lm_m.mpr ⟨hp, hq⟩), fun g hg => ?_⟩
  have := f2 g hg
  rw [if_neg (by omega), lm_s, Nat.zero_add] at this
  exact this
theorem Fit.ext {w : Nat → Nat} {C n : Nat} {Q : Nat → Bool} {T : Nat} (h : Fit w n C Q T) : ∃ t, t ≤ T ∧ Ext w C (lm Q n) 0 (fun _ => 0) t := by
  obtain ⟨f, f1, f2⟩ := h
  refine Ext.cpl (f := f) (fun g _ => rfl) (Nat.zero_le _) (fun p hp => f1 p (lm_m.mp hp).1 (lm_m.mp hp).2) (fun g hg => ?_)
  rw [Nat.zero_add, lm_s]
  exact f2 g hg
theorem fit_len {w : Nat → Nat} {C : Nat} : ∀ {ps : List Nat} {k gl}, Ext w C ps k gl (k + ps.length) := by
  intro ps
  induction ps with
  | nil => intro k gl; rfl
  | cons p ps ih => intro k gl; exact Or.inr (by rw [List.length_cons, show k + (ps.length + 1) = k + 1 + ps.length by omega]; exact ih)
-- parts of a mask
theorem sub_lt {s m : Nat} (h : s &&& m = s) : s ≤ m := by rw [← h]; exact Nat.and_le_right
theorem sub_next : ∀ N s m t, s ≤ N → s &&& m = s → t &&& m = t → t < s → t ≤ (s - 1) &&& m := by
  intro N
  induction N with
  | zero => intro s m t h; omega
  | succ N ih =>
    intro s m t hN hs ht hlt
    have d1 : ∀ a b : Nat, (a &&& b) / 2 = (a / 2) &&& (b / 2) := fun a b => Nat.and_div_two
    have d2 : ∀ a b : Nat, (a &&& b) % 2 = (a % 2) &&& (b % 2) := fun a b => by have := @Nat.and_mod_two_pow a b 1; rw [Nat.pow_one] at this; exact this
    have hs1 : s / 2 &&& m / 2 = s / 2 := by rw [← d1, hs]
    have ht1 : t / 2 &&& m / 2 = t / 2 := by rw [← d1, ht]
    have hs2 : s % 2 &&& m % 2 = s % 2 := by rw [← d2, hs]
    have ht2 : t % 2 &&& m % 2 = t % 2 := by rw [← d2, ht]
    have e1 := d1 (s - 1) m
    have e2 := d2 (s - 1) m
    have hm2 : m % 2 = 0 ∨ m % 2 = 1 := by omega
    have hc : s % 2 = 0 ∨ s % 2 = 1 := by omega
    rcases hc with c | c
    · have k := ih (s / 2) (m / 2) (t / 2) (by omega) hs1 ht1 (by omega)
      rw [show (s - 1) / 2 = s / 2 - 1 by omega] at e1
      rw [show (s - 1) % 2 = 1 by omega] at e2
      have ht3 : t % 2 ≤ m % 2 := by rw [← ht2]; exact Nat.and_le_right
      rcases hm2 with q | q
      · rw [q] at e2 ht3
        rw [show 1 &&& 0 = 0 from rfl] at e2
        omega
      · rw [q] at e2 ht3
        rw [show 1 &&& 1 = 1 from rfl] at e2
        omega
    · rw [show (s - 1) / 2 = s / 2 by omega, hs1] at e1
      omega
theorem sub_one_and {s m : Nat} (h : 0 < s) : (s - 1) &&& m < s := by
  have : (s - 1) &&& m ≤ s - 1 := Nat.and_le_left
  omega
theorem mask_of (n : Nat) (Q : Nat → Bool) : ∃ t, t < 2 ^ n ∧ ∀ p, p < n → t.testBit p = Q p := by
  induction n with
  | zero => exact ⟨0, by decide, fun p hp => by omega⟩
  | succ n ih =>
    obtain ⟨t, h1, h2⟩ := ih
    cases c : Q n
    · refine ⟨t, by rw [Nat.pow_succ]; omega, fun p hp => ?_⟩
      by_cases e : p = n
      · rw [e, c]; exact Nat.testBit_lt_two_pow h1
      · exact h2 p (by omega)
    · refine ⟨2 ^ n + t, by rw [Nat.pow_succ]; omega, fun p hp => ?_⟩
      by_cases e : p = n
      · rw [e, c, Nat.testBit_two_pow_add_eq, Nat.testBit_lt_two_pow h1]; rfl
      · rw [Nat.testBit_two_pow_add_gt (by omega)]; exact h2 p (by omega)
