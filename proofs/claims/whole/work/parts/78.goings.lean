/-! ===== goings ===== -/
section Goings
variable {ld bk : Nat} {L : LD} {x m : St}
def loadN (x : St) (ld : Nat) (L : LD) (p : Nat) : Nat := (loadS x ld L p).toNatClampNeg
theorem ozS_b (hl : RLa ld bk L x m) {l : List Nat} (h : ∀ c ∈ l, c < 26) : ∃ k, k ≤ 99 * l.length ∧ ozS x (ld + 16) 0 l = nI k := by
  induction l with
  | nil => exact ⟨0, Nat.zero_le _, rfl⟩
  | cons c l ih =>
    obtain ⟨k, hk, e⟩ := ih (fun c hc => h c (List.mem_cons_of_mem _ hc))
    obtain ⟨o, -, ho, g1, -⟩ := hl.2.2.2.2.2.2.2.2.2 c (h c List.mem_cons_self)
    refine ⟨k + o, by rw [List.length_cons]; omega, ?_⟩
    rw [ozS, e, Nat.zero_add, g1, nI_add]
theorem ozT_b (hl : RLa ld bk L x m) {t : Nat} (ht : t < L.nt) : ∃ k, k ≤ 594 ∧ ozT x ld t = nI k := by
  obtain ⟨p1, p6, hp⟩ := nmT hl ht
  obtain ⟨k, hk, e⟩ := ozS_b hl hp
  exact ⟨k, by omega, by rw [← e]; exact (hl.2.2.2.2.2.2.1 t ht).2.2⟩
theorem sumT_b {f : Nat → Int32} {c N b : Nat} (h : ∀ i, i < N → ∃ k, k ≤ b ∧ f i = nI k) : ∃ k, k ≤ b * N ∧ sumT f c N = nI k := by
  have := itr_inv (g := fun (a : Int32) i => if c.testBit i = true then a + f i else a) (P := fun i a => ∃ k, k ≤ b * i ∧ a = nI k) (N := N) (fun a i hi ⟨k, hk, e⟩ => by
    obtain ⟨j, hj, ej⟩ := h i hi
    split
    · exact ⟨k + j, by rw [Nat.mul_add, Nat.mul_one]; omega, by rw [e, ej, nI_add]⟩
    · exact ⟨k, by rw [Nat.mul_add]; omega, e⟩) N 0 0 (by omega) ⟨0, Nat.zero_le _, rfl⟩
  rw [Nat.zero_add] at this
  exact this
theorem looS_b (hl : RLa ld bk L x m) (hd : RDy L x m) {r : Nat} (hr : r ≤ 8) : ∃ k, k ≤ 25737426 ∧ looS x ld r = nI k := by
  have := itr_inv (g := fun (a : Int32) k => a + gI x 8 (26 * r + k) * gI x (ld + 16) k) (P := fun i a => ∃ k, k ≤ 989901 * i ∧ a = nI k) (N := 26) (fun a i hi ⟨k, hk, e⟩ => by
    obtain ⟨o, -, ho, g1, -⟩ := hl.2.2.2.2.2.2.2.2.2 i hi
    obtain ⟨c, hc, c1, -⟩ := hd.2.2.2.2.1 (26 * r + i) (by omega)
    have : c * o ≤ 9999 * 99 := Nat.mul_le_mul hc ho
    exact ⟨k + c * o, by omega, by rw [e, c1, g1, pk_mul, nI_add]⟩) 26 0 0 (by omega) ⟨0, Nat.zero_le _, rfl⟩
  exact this
theorem load_N (hl : RLa ld bk L x m) (hd : RDy L x m) {p : Nat} (hp : p < 8) : loadS x ld L p = nI (loadN x ld L p) ∧ loadN x ld L p ≤ 25744554 := by
  have h12 := hl.2.1.1
  obtain ⟨a, ha, ea⟩ := sumT_b (c := coatN x p) (fun t (ht : t < L.nt) => ozT_b hl ht)
  obtain ⟨b, hb, eb⟩ := looS_b hl hd (r := p) (by omega)
  have hab : a + b ≤ 25744554 := by
    have : 594 * L.nt ≤ 594 * 12 := Nat.mul_le_mul_left _ h12
    omega
  have e : loadS x ld L p = nI (a + b) := by rw [loadS, ea, eb, nI_add]
  have : loadN x ld L p = a + b := by rw [loadN, e, nI_clamp (by omega)]
  rw [this]
  exact ⟨e, hab⟩
theorem loadS_c (hs : RSt ld x) {σ : St} (h : ScX x σ) (p : Nat) : loadS σ ld L p = loadS x ld L p := by
  have xl : ∀ j k, j ≤ 19 → gI σ (ld + j) k = gI x (ld + j) k := by
    intro j k hj
    refine h.1 _ _ ?_
    rcases hs.2.1 with rfl | rfl <;> simp [xS] <;> omega
  have e1 : ozT σ ld = ozT x ld := funext fun t => xl 6 _ (by omega)
  have e2 : coatN σ p = coatN x p := by rw [coatN, coatN, h.1 7 p rfl]
  have e3 : looS σ ld p = looS x ld p := by
    unfold looS
    refine itr_congr (N := 26) (fun a k hk => ?_) _ _ _ (by omega)
    rw [h.1 8 _ rfl, xl 16 _ (by omega)]
  rw [loadS, loadS, e1, e2, e3]
-- the class's search
def PX (w : Nat → Nat) (it : List Nat) (C : Nat) (x : St) (best : Nat) (gl : Nat → Nat) (k : Nat) (σ : St) : Prop := ScX x σ ∧ gI σ 24 8 = nI it.length ∧ gI σ 24 13 = nI C ∧ gI σ 24 14 = nI best ∧ (∀ j (h : j < it.length), gI σ 30 j = nI (w it[j])) ∧ ∀ g, g < k → gI σ 31 g = nI (gl g)
theorem min_I {a b : Nat} (ha : a < 2 ^ 31) (hb : b < 2 ^ 31) (σ : St) : f_J9_min_7cf53 (nI a) (nI b) σ = some (nI (min a b), σ) := by
  rw [e_J9_min_7cf53]
  by_cases c : b < a
  · rw [if_pos (nI_lt c ha), Nat.min_eq_right (by omega)]
  · rw [if_neg (nI_nlt (by omega) hb), Nat.min_eq_left (by omega)]
theorem place_X {w : Nat → Nat} {it : List Nat} {C : Nat} (h8 : it.length ≤ 8) (hC : C ≤ 9999) (hw : ∀ p ∈ it, w p ≤ C) : ∀ r d i k gl best σ, i + r = it.length → r < d → k ≤ 8 → best ≤ 8 → (∀ g, g < k → gl g ≤ C) → PX w it C x best gl k σ →
    ∃ σ' best', f_X9_place d (nI i) (nI k) σ = some ((), σ') ∧ PX w it C x best' gl k σ' ∧ best' ≤ best ∧ (best' = best ∨ Ext w C (it.drop i) k gl best') ∧ ∀ t, Ext w C (it.drop i) k gl t → best' ≤ t := by
  intro r
  induction r with
  | zero =>
    intro d i k gl best σ hi hd hk hbe hg hσ
    obtain ⟨d, rfl⟩ : ∃ k, d = k + 1 := ⟨d - 1, by omega⟩
    obtain ⟨o1, o2, o3, o4, o5, o6⟩ := hσ
    rw [ed_X9_place, e_X9_place, if_neg (nI_pos (by omega)), o2, if_pos (nI_le (by omega) (by omega)), o4, min_I (by omega) (by omega)]
    dsimp only [Option.bind, ltt]
    rw [List.drop_of_length_le (by omega)]
    refine ⟨_, min best k, rfl, ⟨o1.tr (ScX.sI rfl), ?_, ?_, ?_, fun j hj => ?_, fun g hg' => ?_⟩, Nat.min_le_left _ _, ?_, fun t ht => ?_⟩
    · rw [gI_sI, if_neg (by decide), o2]
    · rw [gI_sI, if_neg (by decide), o3]
    · rw [gI_sI, if_pos ⟨rfl, rfl⟩]
    · rw [gI_sI, if_neg (by omega)]; exact o5 j hj
    · rw [gI_sI, if_neg (by omega)]; exact o6 g hg'
    · by_cases c : best ≤ k
      · exact Or.inl (Nat.min_eq_left c)
      · exact Or.inr (Nat.min_eq_right (by omega))
    · have ht : t = k := ht
      rw [ht]; exact Nat.min_le_right _ _
  | succ r ih =>
    intro d i k gl best σ hi hd hk hbe hg hσ
    obtain ⟨d, rfl⟩ : ∃ k, d = k + 1 := ⟨d - 1, by omega⟩
    have hil : i < it.length := by omega
    have hwp : w it[i] ≤ C := hw _ (List.getElem_mem hil)
    rw [List.drop_eq_getElem_cons hil]
    have inner : ∀ e g n best σ, g + e = k → e < n → best ≤ 8 → PX w it C x best gl k σ → ∃ σ' best', f_X9_place_33 (f_X9_place d) n (nI i) (nI k) (nI g) σ = some ((), σ') ∧ PX w it C x best' gl k σ' ∧ best' ≤ best ∧ (best' = best ∨ Ext w C (it[i] :: it.drop (i + 1)) k gl best') ∧ (∀ g' t, g ≤ g' → g' < k → gl g' + w it[i] ≤ C → Ext w C (it.drop (i + 1)) k (updN gl g' (gl g' + w it[i])) t → best' ≤ t) ∧ ∀ t, Ext w C (it.drop (i + 1)) (k + 1) (updN gl k (w it[i])) t → best' ≤ t := by
      intro e
      induction e with
      | zero =>
        intro g n best σ hge hn hbe hσ
        obtain ⟨n, rfl⟩ : ∃ k, n = k + 1 := ⟨n - 1, by omega⟩
        obtain ⟨o1, o2, o3, o4, o5, o6⟩ := id hσ
        rw [e_X9_place_33, if_pos (nI_le (by omega) (by omega)), o4, nI_1]
        by_cases c : best ≤ k + 1
        · rw [if_pos (nI_le c (by omega))]
          refine ⟨σ, best, rfl, hσ, Nat.le_refl _, Or.inl rfl, fun g' t h1 h2 => by omega, fun t ht => ?_⟩
          have := ht.ge
          omega
        · rw [if_neg (nI_ge (by omega) (by omega)), if_neg (show ¬ (8 : Int32) ≤ nI k from nI_ge (b := 8) (by omega) (by omega)), if_pos (inb_nI (by omega) (by omega)), if_pos (inb_nI (by omega) (by omega)), ix_nI (by omega), ix_nI (by omega), nI_1, o5 i hil]
          dsimp only [ltt]
          obtain ⟨σ', best', e', p', q1, q2, q3⟩ := ih d (i + 1) (k + 1) (updN gl k (w it[i])) best (sI σ 31 k (nI (w it[i]))) (by omega) (by omega) (by omega) hbe (fun g hg' => by
            unfold updN; split; exact hwp; exact hg g (by omega)) ⟨o1.tr (ScX.sI rfl), by rw [gI_sI, if_neg (by omega)]; exact o2, by rw [gI_sI, if_neg (by omega)]; exact o3, by rw [gI_sI, if_neg (by omega)]; exact o4, fun j hj => by rw [gI_sI, if_neg (by omega)]; exact o5 j hj, fun g hg' => by
            rw [gI_sI, updN]
            by_cases cg : g = k
            · rw [if_pos ⟨rfl, cg⟩, if_pos cg]
            · rw [if_neg (fun q => cg q.2), if_neg cg]; exact o6 g (by omega)⟩
          rw [e']
          refine ⟨σ', best', rfl, ⟨p'.1, p'.2.1, p'.2.2.1, p'.2.2.2.1, p'.2.2.2.2.1, fun g hg' => ?_⟩, q1, ?_, fun g' t h1 h2 => by omega, q3⟩
          · rw [p'.2.2.2.2.2 g (by omega), updN, if_neg (by omega)]
          · rcases q2 with q2 | q2
            · exact Or.inl q2
            · exact Or.inr (Or.inr q2)
      | succ e ihe =>
        intro g n best σ hge hn hbe hσ
        obtain ⟨n, rfl⟩ : ∃ k, n = k + 1 := ⟨n - 1, by omega⟩
        obtain ⟨o1, o2, o3, o4, o5, o6⟩ := id hσ
        have hgC := hg g (by omega)
        rw [e_X9_place_33, if_neg (nI_ge (by omega) (by omega)), if_neg (show ¬ (8 : Int32) ≤ nI g from nI_ge (b := 8) (by omega) (by omega)), inb_nI (show g < 8 by omega) (by omega), inb_nI (show i < 8 by omega) (by omega), ix_nI (by omega), ix_nI (by omega), o3, o6 g (by omega), o5 i hil, nI_add, nI_1, nI_1]
        simp only [if_true, ltt]
        by_cases c : gl g + w it[i] ≤ C
        · rw [if_neg (nI_nlt c (by omega))]
          obtain ⟨σ1, b1, e1, p1, q1, q2, q3⟩ := ih d (i + 1) k (updN gl g (gl g + w it[i])) best (sI σ 31 g (nI (gl g + w it[i]))) (by omega) (by omega) hk hbe (fun g' hg' => by
            unfold updN; split; exact c; exact hg g' hg') ⟨o1.tr (ScX.sI rfl), by rw [gI_sI, if_neg (by omega)]; exact o2, by rw [gI_sI, if_neg (by omega)]; exact o3, by rw [gI_sI, if_neg (by omega)]; exact o4, fun j hj => by rw [gI_sI, if_neg (by omega)]; exact o5 j hj, fun g' hg' => by
            rw [gI_sI, updN]
            by_cases cg : g' = g
            · rw [if_pos ⟨rfl, cg⟩, if_pos cg]
            · rw [if_neg (fun q => cg q.2), if_neg cg]; exact o6 g' hg'⟩
          rw [e1]
          dsimp only [Option.bind]
          have v1 : gI σ1 31 g = nI (gl g + w it[i]) := by rw [p1.2.2.2.2.2 g (by omega), updN, if_pos rfl]
          rw [v1, p1.2.2.2.2.1 i hil, pk_sub (by omega), Nat.add_sub_cancel]
          obtain ⟨σ2, b2, e2, p2, r1, r2, r3, r4⟩ := ihe (g + 1) n b1 (sI σ1 31 g (nI (gl g))) (by omega) (by omega) (by omega) ⟨p1.1.tr (ScX.sI rfl), by rw [gI_sI, if_neg (by omega)]; exact p1.2.1, by rw [gI_sI, if_neg (by omega)]; exact p1.2.2.1, by rw [gI_sI, if_neg (by omega)]; exact p1.2.2.2.1, fun j hj => by rw [gI_sI, if_neg (by omega)]; exact p1.2.2.2.2.1 j hj, fun g' hg' => by
            rw [gI_sI]
            by_cases cg : g' = g
            · rw [if_pos ⟨rfl, cg⟩, cg]
            · rw [if_neg (fun q => cg q.2), p1.2.2.2.2.2 g' hg', updN, if_neg cg]⟩
          refine ⟨σ2, b2, e2, p2, by omega, ?_, fun g' t h1 h2 h3 h4 => ?_, r4⟩
          · rcases r2 with r2 | r2
            · rcases q2 with q2 | q2
              · exact Or.inl (r2.trans q2)
              · exact Or.inr (Or.inl ⟨g, by omega, c, by rw [r2]; exact q2⟩)
            · exact Or.inr r2
          · by_cases cg : g' = g
            · subst cg
              have := q3 t h4
              omega
            · exact r3 g' t (by omega) h2 h3 h4
        · rw [if_pos (nI_lt (by omega) (by omega))]
          obtain ⟨σ2, b2, e2, p2, r1, r2, r3, r4⟩ := ihe (g + 1) n best σ (by omega) (by omega) hbe hσ
          refine ⟨σ2, b2, e2, p2, r1, r2, fun g' t h1 h2 h3 h4 => ?_, r4⟩
          by_cases cg : g' = g
          · subst cg; exact absurd h3 c
          · exact r3 g' t (by omega) h2 h3 h4
    obtain ⟨σ', best', e', p', q1, q2, q3, q4⟩ := inner k 0 FU best σ (by omega) (by rw [FU_eq]; omega) hbe hσ
    refine ⟨σ', best', ?_, p', q1, q2, fun t ht => ?_⟩
    · rw [ed_X9_place, e_X9_place, if_neg (nI_pos (by omega)), hσ.2.1, if_neg (nI_ge hil (by omega)), if_pos (show nI i < (8 : Int32) from nI_lt (b := 8) (by omega) (by omega))]
      exact e'
    · rcases ht with ⟨g, h1, h2, h3⟩ | ht
      · exact q3 g t (Nat.zero_le _) h1 h2 h3
      · exact q4 t ht
def enc : Option Nat → Int32
  | none => -1
  | some k => nI k
theorem few_X (hs : RSt ld x) (hb : RBk bk m) (hl : RLa ld bk L x m) (hd : RDy L x m) {S C : Nat} (hS : S < 256) (hC : C ≤ 9999) : ∃ σ' o, ScX x σ' ∧ GRo (loadN x ld L) 8 C S.testBit o ∧ f_X9_fewestGroups (nI S) (nI C) x = some (enc o, σ') := by
  have key : ∀ d p n σ, p + d = 8 → d < n → ScX x σ → gI σ 24 8 = nI (lm S.testBit p).length → gI σ 24 13 = nI C → (∀ j (h : j < (lm S.testBit p).length), gI σ 30 j = nI (loadN x ld L (lm S.testBit p)[j])) → (∀ q, q < p → S.testBit q = true → loadN x ld L q ≤ C) → ∃ σ' o, ScX x σ' ∧ GRo (loadN x ld L) 8 C S.testBit o ∧ f_X9_fewestGroups_13 n (nI S) (nI C) (nI p) σ = some (enc o, σ') := by
    intro d
    induction d with
    | zero =>
      intro p n σ hp hn h1 h2 h3 h4 h5
      obtain ⟨n, rfl⟩ : ∃ k, n = k + 1 := ⟨n - 1, by omega⟩
      have : p = 8 := by omega
      subst this
      have hlen := lm_len (Q := S.testBit) (n := 8)
      rw [e_X9_fewestGroups_13, if_pos (by decide), h2]
      dsimp only [ltt]
      obtain ⟨σ', best, e, p', q1, q2, q3⟩ := place_X (x := x) (w := loadN x ld L) hlen hC (fun p hp => h5 p (lm_m.mp hp).1 (lm_m.mp hp).2) (lm S.testBit 8).length 24 0 0 (fun _ => 0) (lm S.testBit 8).length (sI σ 24 14 (nI (lm S.testBit 8).length)) (by omega) (by omega) (by omega) hlen (fun g hg => by omega) ⟨h1.tr (ScX.sI rfl), by rw [gI_sI, if_neg (by decide)]; exact h2, by rw [gI_sI, if_neg (by decide)]; exact h3, by rw [gI_sI, if_pos ⟨rfl, rfl⟩], fun j hj => by rw [gI_sI, if_neg (by omega)]; exact h4 j hj, fun g hg => by omega⟩
      have e' : f_X9_place 24 0 0 (sI σ 24 14 (nI (lm S.testBit 8).length)) = some ((), σ') := e
      rw [e']
      dsimp only [Option.bind]
      rw [p'.2.2.2.1]
      refine ⟨σ', some best, p'.1, ⟨fun k hk => ?_, fun j hj => ?_⟩, rfl⟩
      · cases hk
        rw [List.drop_zero] at q2
        rcases q2 with q2 | q2
        · have := (fit_len (w := loadN x ld L) (C := C) (ps := lm S.testBit 8) (k := 0) (gl := fun _ => 0)).fit h5
          rw [Nat.zero_add] at this
          rw [q2]; exact this
        · exact q2.fit h5
      · obtain ⟨t, ht, et⟩ := hj.ext
        have := q3 t (by rw [List.drop_zero]; exact et)
        exact ⟨best, rfl, by omega⟩
    | succ d ih =>
      intro p n σ hp hn h1 h2 h3 h4 h5
      obtain ⟨n, rfl⟩ : ∃ k, n = k + 1 := ⟨n - 1, by omega⟩
      rw [e_X9_fewestGroups_13, if_neg (show ¬ (8 : Int32) ≤ nI p from nI_ge (b := 8) (by omega) (by omega)), bit_I (by omega) (by omega), nI_1]
      have hlen := lm_len (Q := S.testBit) (n := p)
      cases c : S.testBit p
      · rw [if_pos (by decide)]
        have el : lm S.testBit (p + 1) = lm S.testBit p := by rw [lm, c, if_neg (by decide), List.append_nil]
        refine ih (p + 1) n σ (by omega) (by omega) h1 (by rw [el]; exact h2) h3 (by rw [el]; exact h4) (fun q hq hq2 => ?_)
        by_cases e : q = p
        · rw [e, c] at hq2; cases hq2
        · exact h5 q (by omega) hq2
      · rw [if_neg (by decide)]
        obtain ⟨s', b', l', d'⟩ := scrP h1 (ScM.rf m) hs hb hl hd
        obtain ⟨n1, n2⟩ := load_N hl hd (p := p) (by omega)
        rw [load_X s' l' d' (by omega), loadS_c hs h1, n1]
        dsimp only [Option.bind]
        by_cases cw : loadN x ld L p ≤ C
        · have el : lm S.testBit (p + 1) = lm S.testBit p ++ [p] := by rw [lm, c, if_pos rfl]
          rw [if_pos (nI_le cw (by omega)), h2, if_pos (inb_nI (by omega) (by omega)), ix_nI (by omega)]
          dsimp only [ltt]
          rw [gI_sI, if_neg (by omega), h2, nI_1]
          refine ih (p + 1) n _ (by omega) (by omega) ((h1.tr (ScX.sI rfl)).tr (ScX.sI rfl)) ?_ ?_ (fun j hj => ?_) (fun q hq hq2 => ?_)
          · rw [gI_sI, if_pos ⟨rfl, rfl⟩, el, List.length_append]; rfl
          · rw [gI_sI, if_neg (by decide), gI_sI, if_neg (by omega)]; exact h3
          · rw [gI_sI, if_neg (by omega), gI_sI]
            by_cases cj : j = (lm S.testBit p).length
            · subst cj
              rw [if_pos ⟨rfl, rfl⟩]
              simp only [el, List.getElem_concat_length]
            · rw [if_neg (fun q => cj q.2)]
              have hj' : j < (lm S.testBit p).length := by rw [el, List.length_append, List.length_singleton] at hj; omega
              rw [h4 j hj']
              simp only [el, List.getElem_append_left hj']
          · by_cases e : q = p
            · rw [e]; exact cw
            · exact h5 q (by omega) hq2
        · rw [if_neg (nI_ge (by omega) (by omega))]
          refine ⟨σ, none, h1, ⟨fun k hk => (by cases hk), fun j hj => ?_⟩, rfl⟩
          exact absurd (hj.all p (by omega) c) cw
  rw [e_X9_fewestGroups]
  dsimp only [ltt]
  exact key 8 0 FU (sI (sI x 24 8 0) 24 13 (nI C)) (by omega) (by rw [FU_eq]; omega) ((ScX.sI rfl).tr (ScX.sI rfl)) (by rw [gI_sI, if_neg (by decide), gI_sI, if_pos ⟨rfl, rfl⟩]; rfl) (by rw [gI_sI, if_pos ⟨rfl, rfl⟩]) (fun j hj => absurd hj (Nat.not_lt_zero _)) (fun q hq => by omega)
end Goings
