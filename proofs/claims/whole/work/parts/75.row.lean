/-! ===== row ===== -/
section Row
variable {ld bk : Nat} {L : LD} {x m : St}
def LEs (s t : Nat × Int32) : Prop := s.1 < t.1 ∨ (s.1 = t.1 ∧ s.2 ≤ t.2)
def bst (s c : Nat × Int32) : Nat × Int32 := if c.1 < s.1 then s else if c.1 = s.1 then (if s.2 < c.2 then c else s) else c
theorem LEs.rf (s : Nat × Int32) : LEs s s := Or.inr ⟨rfl, Int32.le_refl _⟩
theorem LEs.tr {s t u : Nat × Int32} (h : LEs s t) (g : LEs t u) : LEs s u := by
  rcases h with h | ⟨h, h'⟩ <;> rcases g with g | ⟨g, g'⟩
  · exact Or.inl (by omega)
  · exact Or.inl (by omega)
  · exact Or.inl (by omega)
  · exact Or.inr ⟨by omega, Int32.le_trans h' g'⟩
theorem LEs.as {s t : Nat × Int32} (h : LEs s t) (g : LEs t s) : s = t := by
  rcases h with h | ⟨h, h'⟩ <;> rcases g with g | ⟨g, g'⟩
  · omega
  · omega
  · omega
  · exact Prod.ext h (Int32.le_antisymm h' g')
theorem bst_s (s c : Nat × Int32) : LEs s (bst s c) ∧ LEs c (bst s c) ∧ (bst s c = s ∨ bst s c = c) := by
  unfold bst
  by_cases c1 : c.1 < s.1
  · rw [if_pos c1]; exact ⟨LEs.rf s, Or.inl c1, Or.inl rfl⟩
  rw [if_neg c1]
  by_cases c2 : c.1 = s.1
  · rw [if_pos c2]
    by_cases c3 : s.2 < c.2
    · rw [if_pos c3]; exact ⟨Or.inr ⟨c2.symm, Int32.le_of_lt c3⟩, LEs.rf c, Or.inr rfl⟩
    · rw [if_neg c3]; exact ⟨LEs.rf s, Or.inr ⟨c2, Int32.not_lt.mp c3⟩, Or.inl rfl⟩
  · rw [if_neg c2]; exact ⟨Or.inl (by omega), LEs.rf c, Or.inr rfl⟩
def tn (p q : List Nat) (o : Nat) : Nat := min q.length (p.length - o)
def tryF (oz : List Nat → Int32) (p q : List Nat) (s : Nat × Int32) (o : Nat) : Nat × Int32 :=
  if (p.drop o).take (tn p q o) = q.take (tn p q o) then bst s (tn p q o, oz (q.take (tn p q o))) else s
def Cand (oz : List Nat → Int32) (p q : List Nat) (c : Nat × Int32) : Prop := ∃ o, o < p.length ∧ (p.drop o).take (tn p q o) = q.take (tn p q o) ∧ c = (tn p q o, oz (q.take (tn p q o)))
theorem try_s (oz : List Nat → Int32) (p q : List Nat) : ∀ d s i, LEs s (itr (tryF oz p q) d s i) ∧ (∀ o, i ≤ o → o < i + d → (p.drop o).take (tn p q o) = q.take (tn p q o) → LEs (tn p q o, oz (q.take (tn p q o))) (itr (tryF oz p q) d s i)) ∧ (itr (tryF oz p q) d s i = s ∨ ∃ o, i ≤ o ∧ o < i + d ∧ (p.drop o).take (tn p q o) = q.take (tn p q o) ∧ itr (tryF oz p q) d s i = (tn p q o, oz (q.take (tn p q o)))) := by
  intro d
  induction d with
  | zero => intro s i; exact ⟨LEs.rf s, fun o h1 h2 => by omega, Or.inl rfl⟩
  | succ d ih =>
    intro s i
    rw [show itr (tryF oz p q) (d + 1) s i = itr (tryF oz p q) d (tryF oz p q s i) (i + 1) from rfl]
    obtain ⟨g1, g2, g3⟩ := ih (tryF oz p q s i) (i + 1)
    by_cases e : (p.drop i).take (tn p q i) = q.take (tn p q i)
    · have et : tryF oz p q s i = bst s (tn p q i, oz (q.take (tn p q i))) := by rw [tryF, if_pos e]
      rw [et] at g1 g2 g3 ⊢
      obtain ⟨b1, b2, b3⟩ := bst_s s (tn p q i, oz (q.take (tn p q i)))
      refine ⟨b1.tr g1, fun o h1 h2 h3 => ?_, ?_⟩
      · rcases Nat.lt_or_ge i o with w | w
        · exact g2 o w (by omega) h3
        · have : o = i := by omega
          rw [this]; exact b2.tr g1
      · rcases g3 with g3 | ⟨o, h1, h2, h3⟩
        · rcases b3 with b3 | b3
          · exact Or.inl (g3.trans b3)
          · exact Or.inr ⟨i, by omega, by omega, e, g3.trans b3⟩
        · exact Or.inr ⟨o, by omega, by omega, h3⟩
    · have et : tryF oz p q s i = s := by rw [tryF, if_neg e]
      rw [et] at g1 g2 g3 ⊢
      refine ⟨g1, fun o h1 h2 h3 => ?_, ?_⟩
      · rcases Nat.lt_or_ge i o with w | w
        · exact g2 o w (by omega) h3
        · have : o = i := by omega
          rw [this] at h3; exact absurd h3 e
      · rcases g3 with g3 | ⟨o, h1, h2, h3⟩
        · exact Or.inl g3
        · exact Or.inr ⟨o, by omega, by omega, h3⟩
/-- the best overlay -/
def IsB (oz : List Nat → Int32) (p q : List Nat) (V : Nat × Int32) : Prop := (V = (0, 0) ∨ Cand oz p q V ∨ Cand oz q p V) ∧ LEs (0, 0) V ∧ (∀ c, Cand oz p q c → LEs c V) ∧ ∀ c, Cand oz q p c → LEs c V
theorem IsB.un {oz : List Nat → Int32} {p q : List Nat} {V W : Nat × Int32} (h : IsB oz p q V) (g : IsB oz p q W) : V = W := by
  have k : ∀ {V W : Nat × Int32}, IsB oz p q V → IsB oz p q W → LEs V W := by
    intro V W h g
    rcases h.1 with e | e | e
    · rw [e]; exact g.2.1
    · exact g.2.2.1 _ e
    · exact g.2.2.2 _ e
  exact (k h g).as (k g h)
theorem IsB.sy {oz : List Nat → Int32} {p q : List Nat} {V : Nat × Int32} (h : IsB oz p q V) : IsB oz q p V := by
  refine ⟨?_, h.2.1, h.2.2.2, h.2.2.1⟩
  rcases h.1 with e | e | e
  · exact Or.inl e
  · exact Or.inr (Or.inr e)
  · exact Or.inr (Or.inl e)
theorem IsB_M (oz : List Nat → Int32) (p q : List Nat) : IsB oz p q (itr (tryF oz q p) q.length (itr (tryF oz p q) p.length (0, 0) 0) 0) := by
  obtain ⟨a1, a2, a3⟩ := try_s oz p q p.length (0, 0) 0
  obtain ⟨b1, b2, b3⟩ := try_s oz q p q.length (itr (tryF oz p q) p.length (0, 0) 0) 0
  refine ⟨?_, a1.tr b1, ?_, ?_⟩
  · rcases b3 with e | ⟨o, h1, h2, h3, e⟩
    · rw [e]
      rcases a3 with e | ⟨o, h1, h2, h3, e⟩
      · exact Or.inl e
      · exact Or.inr (Or.inl ⟨o, by omega, h3, e⟩)
    · exact Or.inr (Or.inr ⟨o, by omega, h3, e⟩)
  · rintro c ⟨o, h1, h2, rfl⟩
    exact (a2 o (by omega) (by omega) h2).tr b1
  · rintro c ⟨o, h1, h2, rfl⟩
    exact b2 o (by omega) (by omega) h2
theorem IsB_W {oz : List Nat → Int32} {p q : List Nat} (p1 : 1 ≤ p.length) (w : Win p q) : IsB oz p q (p.length, oz p) := by
  obtain ⟨i, h1, h2⟩ := w
  have tnle : ∀ o, tn q p o ≤ p.length := fun o => by unfold tn; omega
  refine ⟨Or.inr (Or.inr ⟨i, by omega, ?_, ?_⟩), Or.inl (by show 0 < p.length; omega), ?_, ?_⟩
  · rw [show tn q p i = p.length by unfold tn; omega, h2, List.take_length]
  · rw [show tn q p i = p.length by unfold tn; omega, List.take_length]
  · rintro c ⟨o, g1, g2, rfl⟩
    by_cases e : tn p q o = p.length
    · have : o = 0 := by unfold tn at e; omega
      subst this
      rw [e, List.drop_zero, List.take_length] at g2
      rw [e, ← g2]
      exact LEs.rf _
    · exact Or.inl (by show tn p q o < p.length; unfold tn at e ⊢; omega)
  · rintro c ⟨o, g1, g2, rfl⟩
    by_cases e : tn q p o = p.length
    · rw [e, List.take_length]; exact LEs.rf _
    · exact Or.inl (by show tn q p o < p.length; have := tnle o; omega)
theorem Jnt_c {oz : List Nat → Int32} (h0 : oz [] = 0) {p q : List Nat} {a : Nat} (h : Jnt p q a) (nw : ¬ Win q p) : ((a, oz (q.take a)) = (0, 0) ∨ Cand oz p q (a, oz (q.take a))) ∧ ∀ c, Cand oz p q c → LEs c (a, oz (q.take a)) := by
  obtain ⟨h1, h2, h3, h4⟩ := h
  constructor
  · rcases Nat.eq_zero_or_pos a with e | e
    · subst e; rw [List.take_zero, h0]; exact Or.inl rfl
    · refine Or.inr ⟨p.length - a, by omega, ?_⟩
      rw [show tn p q (p.length - a) = a by unfold tn; omega, h3]
      refine ⟨?_, rfl⟩
      rw [List.take_take, Nat.min_self]
  · rintro c ⟨o, g1, g2, rfl⟩
    by_cases c : q.length ≤ p.length - o
    · refine absurd ⟨o, by omega, ?_⟩ nw
      rw [show tn p q o = q.length by unfold tn; omega, List.take_length] at g2
      exact g2
    · have e : tn p q o = p.length - o := by unfold tn; omega
      rw [e] at g2 ⊢
      rw [List.take_of_length_le (by rw [List.length_drop]; omega)] at g2
      rcases Nat.lt_trichotomy (p.length - o) a with w | w | w
      · exact Or.inl w
      · rw [w]; exact LEs.rf _
      · refine absurd ?_ (h4 (p.length - o) w (by omega) (by omega))
        rw [show p.length - (p.length - o) = o by omega]
        exact g2
theorem IsB_J {oz : List Nat → Int32} (h0 : oz [] = 0) {p q : List Nat} {a b : Nat} (h : Jnt p q a) (g : Jnt q p b) (nw : ¬ Win q p) (nw' : ¬ Win p q) : IsB oz p q (bst (a, oz (q.take a)) (b, oz (p.take b))) := by
  obtain ⟨b1, b2, b3⟩ := bst_s (a, oz (q.take a)) (b, oz (p.take b))
  obtain ⟨u1, u2⟩ := Jnt_c h0 h nw
  obtain ⟨v1, v2⟩ := Jnt_c h0 g nw'
  have z : LEs (0, 0) (a, oz (q.take a)) := by
    rcases Nat.eq_zero_or_pos a with e | e
    · subst e; rw [List.take_zero, h0]; exact LEs.rf _
    · exact Or.inl e
  refine ⟨?_, z.tr b1, fun c hc => (u2 c hc).tr b1, fun c hc => (v2 c hc).tr b2⟩
  rcases b3 with e | e
  · rw [e]
    rcases u1 with u1 | u1
    · exact Or.inl u1
    · exact Or.inr (Or.inl u1)
  · rw [e]
    rcases v1 with u1 | u1
    · exact Or.inl u1
    · exact Or.inr (Or.inr u1)
-- the class's side
theorem row_X (hs : RSt ld x) (hl : RLa ld bk L x m) {t u : Nat} (ht : t < L.nt) (hu : u < L.nt) : ∃ V : Nat × Int32, V.1 ≤ 6 ∧ IsB (ozS x (ld + 16) 0) (L.tn t) (L.tn u) V ∧ f_X4_shared ld (nI t) (nI u) x = some (nI V.1, x) ∧ f_X4_rowOunces ld (nI t) (nI u) x = some (ozT x ld t + ozT x ld u - V.2, x) := by
  obtain ⟨p1, p6, hp⟩ := nmT hl ht
  obtain ⟨q1, q6, hq⟩ := nmT hl hu
  have ot : ozT x ld t = ozS x (ld + 16) 0 (L.tn t) := (hl.2.2.2.2.2.2.1 t ht).2.2
  have ou : ozT x ld u = ozS x (ld + 16) 0 (L.tn u) := (hl.2.2.2.2.2.2.1 u hu).2.2
  rw [ot, ou]
  rw [e_X4_shared, e_X4_rowOunces, nameT_X hs hl ht]
  dsimp only [Option.bind]
  rw [nameT_X hs hl hu]
  dsimp only
  rw [nameOz_X hp p6]
  dsimp only
  rw [nameOz_X hq q6]
  dsimp only [ltt]
  obtain ⟨b1, w1, e1⟩ := within_X hp p6 p1 hq q6 x
  rw [e1]
  dsimp only
  cases b1
  · rw [if_pos (by decide), if_pos (by decide)]
    obtain ⟨b2, w2, e2⟩ := within_X hq q6 q1 hp p6 x
    rw [e2]
    dsimp only
    cases b2
    · rw [if_pos (by decide), if_pos (by decide)]
      obtain ⟨a, ja, ea⟩ := joint_X hp p6 hq q6 x
      obtain ⟨b, jb, eb⟩ := joint_X hq q6 hp p6 x
      have ha := ja.1
      have ha2 := ja.2.1
      have hb := jb.1
      refine ⟨bst (a, ozS x (ld + 16) 0 ((L.tn u).take a)) (b, ozS x (ld + 16) 0 ((L.tn t).take b)), ?_, IsB_J rfl ja jb (fun w => by have := w2.mpr w; cases this) (fun w => by have := w1.mpr w; cases this), ?_, ?_⟩
      · rcases (bst_s (a, ozS x (ld + 16) 0 ((L.tn u).take a)) (b, ozS x (ld + 16) 0 ((L.tn t).take b))).2.2 with e | e <;> rw [e]
        · show a ≤ 6; omega
        · show b ≤ 6; omega
      · rw [ea]
        dsimp only
        rw [eb]
        dsimp only
        rw [e_J9_max_7cf53]
        unfold bst
        dsimp only
        rcases Nat.lt_trichotomy a b with w | w | w
        · rw [if_pos (nI_lt w (by omega)), if_neg (by omega), if_neg (by omega)]
        · subst w
          rw [if_neg (nI_nlt (Nat.le_refl _) (by omega)), if_neg (by omega), if_pos rfl]
          dsimp only
          split <;> rfl
        · rw [if_neg (nI_nlt (by omega) (by omega)), if_pos (by omega)]
      · rw [ea]
        dsimp only
        rw [eb]
        dsimp only
        rw [start_X hq q6 (by omega)]
        dsimp only
        rw [nameOz_X (take_c hq a) (take_6 q6 a)]
        dsimp only
        rw [start_X hp p6 (by omega)]
        dsimp only
        rw [nameOz_X (take_c hp b) (take_6 p6 b)]
        dsimp only
        unfold bst
        dsimp only
        rcases Nat.lt_trichotomy a b with w | w | w
        · rw [if_neg (fun q => by have := (nI_eq (by omega) (by omega)).mp q; omega), if_pos (nI_le (by omega) (by omega)), if_neg (by omega), if_neg (by omega)]
        · subst w
          rw [if_pos rfl, if_neg (by omega), if_pos rfl, e_J9_max_7cf53]
          by_cases c : ozS x (ld + 16) 0 ((L.tn u).take a) < ozS x (ld + 16) 0 ((L.tn t).take a)
          · rw [if_pos c, if_pos c]
          · rw [if_neg c, if_neg c]
        · rw [if_neg (fun q => by have := (nI_eq (by omega) (by omega)).mp q; omega), if_neg (nI_ge (by omega) (by omega)), if_pos (by omega)]
    · have w := w2.mp rfl
      rw [if_neg (by decide), if_neg (by decide)]
      have hle : (L.tn u).length ≤ (L.tn t).length := by obtain ⟨i, h, -⟩ := w; omega
      refine ⟨((L.tn u).length, ozS x (ld + 16) 0 (L.tn u)), q6, (IsB_W q1 w).sy, ?_, ?_⟩
      · rw [len_X hp p6]
        dsimp only
        rw [len_X hq q6]
        dsimp only
        rw [e_J9_min_7cf53]
        rcases Nat.lt_or_ge (L.tn u).length (L.tn t).length with c | c
        · rw [if_pos (nI_lt c (by omega))]
        · rw [if_neg (nI_nlt c (by omega)), show (L.tn t).length = (L.tn u).length by omega]
      · rw [nameOz_X hp p6]
        dsimp only
        rw [Int32.add_sub_cancel]
  · have w := w1.mp rfl
    rw [if_neg (by decide), if_neg (by decide)]
    have hle : (L.tn t).length ≤ (L.tn u).length := by obtain ⟨i, h, -⟩ := w; omega
    refine ⟨((L.tn t).length, ozS x (ld + 16) 0 (L.tn t)), p6, IsB_W p1 w, ?_, ?_⟩
    · rw [len_X hp p6]
      dsimp only
      rw [len_X hq q6]
      dsimp only
      rw [e_J9_min_7cf53, if_neg (nI_nlt hle (by omega))]
    · rw [nameOz_X hq q6]
      dsimp only
      rw [Int32.add_comm, Int32.add_sub_cancel]
-- the reference's side
theorem letT_M (hb : RBk bk m) (hl : RLa ld bk L x m) {t i : Nat} (ht : t < L.nt) (hi : i < (L.tn t).length) : f_X11_letterOf (nI t) (nI i) m = some (nI (L.tn t)[i], m) := by
  have h12 := hl.2.1.1
  have hbk := hb.1
  obtain ⟨⟨-, h6, hc, -, e⟩, -⟩ := hl.2.2.2.2.2.2.1 t ht
  have hr : ∀ c ∈ (L.tn t).reverse, c < 26 := fun c h => hc c (List.mem_reverse.mp h)
  have hp := pk8r_48 hr (by rw [List.length_reverse]; exact h6)
  rw [e_X11_letterOf, hb.2, show (12 : Int32) = nI 12 from rfl, pk_mul, nI_add, if_pos (inb_nI (by omega) (by omega)), ix_nI (by omega), e, lenT_M hb hl ht]
  dsimp only [Option.bind]
  rw [show nI (L.tn t).length - 1 = nI ((L.tn t).length - 1) from pk_sub (a := (L.tn t).length) (b := 1) (by omega), pk_sub (by omega), pk8_r, jl_8j (by omega) (by omega), l_255 (Nat.lt_of_le_of_lt (Nat.div_le_self _ _) (by omega)), pk8r_at hr, List.getElem?_reverse (by omega), show (L.tn t).length - 1 - ((L.tn t).length - 1 - i) = i by omega, List.getElem?_eq_getElem hi]
  dsimp only
  rw [show (97 : Int32) = nI 97 from rfl, pk_sub (Nat.le_add_left _ _), Nat.add_sub_cancel]
def StR (m : St) (s : Nat × Int32) (σ : St) : Prop := ScM m σ ∧ gI σ 0 68 = nI s.1 ∧ gI σ 0 69 = s.2 ∧ s.1 ≤ 6
theorem tries_M (hs : RSt ld x) (hb : RBk bk m) (hl : RLa ld bk L x m) (hd : RDy L x m) {t u o : Nat} (ht : t < L.nt) (hu : u < L.nt) (ho : o < (L.tn t).length) {s : Nat × Int32} {σ : St} (hσ : StR m s σ) : ∃ σ', f_X11_tries (nI t) (nI u) (nI o) σ = some ((), σ') ∧ StR m (tryF (ozS x (ld + 16) 0) (L.tn t) (L.tn u) s o) σ' := by
  obtain ⟨p1, p6, hp⟩ := nmT hl ht
  obtain ⟨q1, q6, hq⟩ := nmT hl hu
  obtain ⟨s', b', l', d'⟩ := scrP (ScX.rf x) hσ.1 hs hb hl hd
  rw [e_X11_tries, lenT_M b' l' ht]
  dsimp only [Option.bind]
  rw [lenT_M b' l' hu]
  dsimp only [ltt]
  have hn : (if nI (L.tn u).length ≤ nI (L.tn t).length - nI o then f_X11_tries_40 FU (nI t) (nI u) (nI o) (nI (L.tn u).length) 0 0 σ else f_X11_tries_40 FU (nI t) (nI u) (nI o) (nI (L.tn t).length - nI o) 0 0 σ) = f_X11_tries_40 FU (nI t) (nI u) (nI o) (nI (tn (L.tn t) (L.tn u) o)) 0 0 σ := by
    rw [pk_sub (by omega)]
    by_cases c : (L.tn u).length ≤ (L.tn t).length - o
    · rw [if_pos (nI_le c (by omega)), show tn (L.tn t) (L.tn u) o = (L.tn u).length by unfold tn; omega]
    · rw [if_neg (nI_ge (by omega) (by omega)), show tn (L.tn t) (L.tn u) o = (L.tn t).length - o by unfold tn; omega]
  rw [hn]
  have n1 : tn (L.tn t) (L.tn u) o ≤ (L.tn u).length := by unfold tn; omega
  have n2 : tn (L.tn t) (L.tn u) o + o ≤ (L.tn t).length := by unfold tn; omega
  have n6 : tn (L.tn t) (L.tn u) o ≤ 6 := by omega
  have h6 := hσ.2.2.2
  unfold tryF
  generalize tn (L.tn t) (L.tn u) o = N at n1 n2 n6
  have key : ∀ d i n, i + d = N → d < n → ((L.tn t).drop o).take i = (L.tn u).take i → ∃ σ', f_X11_tries_40 n (nI t) (nI u) (nI o) (nI N) (ozS x (ld + 16) 0 ((L.tn u).take i)) (nI i) σ = some ((), σ') ∧ StR m (if ((L.tn t).drop o).take N = (L.tn u).take N then bst s (N, ozS x (ld + 16) 0 ((L.tn u).take N)) else s) σ' := by
    intro d
    induction d with
    | zero =>
      intro i n hi hn he
      obtain ⟨n, rfl⟩ : ∃ k, n = k + 1 := ⟨n - 1, by omega⟩
      have : i = N := by omega
      subst this
      rw [e_X11_tries_40, if_pos (nI_le (Nat.le_refl _) (by omega)), if_pos he, hσ.2.1, hσ.2.2.1]
      unfold bst
      dsimp only [ltt]
      have hset : StR m (i, ozS x (ld + 16) 0 ((L.tn u).take i)) (sI (sI σ 0 68 (nI i)) 0 69 (ozS x (ld + 16) 0 ((L.tn u).take i))) :=
        ⟨(hσ.1.tr (ScM.sI rfl)).tr (ScM.sI rfl), by rw [gI_sI, if_neg (by decide), gI_sI, if_pos ⟨rfl, rfl⟩], by rw [gI_sI, if_pos ⟨rfl, rfl⟩], n6⟩
      rcases Nat.lt_trichotomy i s.1 with w | w | w
      · rw [if_pos (nI_lt w (by omega)), if_pos w]; exact ⟨σ, rfl, hσ⟩
      · rw [if_neg (nI_nlt (by omega) (by omega)), if_pos (show nI i = nI s.1 by rw [w]), if_neg (show ¬ i < s.1 by omega), if_pos w]
        by_cases c : s.2 < ozS x (ld + 16) 0 ((L.tn u).take i)
        · rw [if_pos c, if_pos c]; exact ⟨_, rfl, hset⟩
        · rw [if_neg c, if_neg c]; exact ⟨σ, rfl, hσ⟩
      · rw [if_neg (nI_nlt (by omega) (by omega)), if_neg (show ¬ nI i = nI s.1 from fun q => by have := (nI_eq (by omega) (by omega)).mp q; omega), if_neg (show ¬ i < s.1 by omega), if_neg (show ¬ i = s.1 by omega)]; exact ⟨_, rfl, hset⟩
    | succ d ih =>
      intro i n hi hn he
      obtain ⟨n, rfl⟩ : ∃ k, n = k + 1 := ⟨n - 1, by omega⟩
      have hi1 : o + i < (L.tn t).length := by omega
      have hi2 : i < (L.tn u).length := by omega
      have hc1 := hp _ (List.getElem_mem hi1)
      have hc2 := hq _ (List.getElem_mem hi2)
      rw [e_X11_tries_40, if_neg (nI_ge (by omega) (by omega)), nI_add, letT_M b' l' ht hi1]
      dsimp only [Option.bind]
      rw [letT_M b' l' hu hi2]
      dsimp only
      have et : ((L.tn t).drop o).take (i + 1) = ((L.tn t).drop o).take i ++ [(L.tn t)[o + i]] := by
        rw [List.take_succ_eq_append_getElem (by rw [List.length_drop]; omega), List.getElem_drop]
      have eu : (L.tn u).take (i + 1) = (L.tn u).take i ++ [(L.tn u)[i]] := List.take_succ_eq_append_getElem hi2
      by_cases e : (L.tn t)[o + i] = (L.tn u)[i]
      · rw [if_pos (by rw [e]), letT_M b' l' hu hi2]
        dsimp only
        rw [weight_M b' hc2]
        dsimp only [ltt]
        obtain ⟨w, -, -, g1, g2⟩ := l'.2.2.2.2.2.2.2.2.2 _ hc2
        have key := ih (i + 1) n (by omega) (by omega) (by rw [et, eu, he, e])
        rw [eu, ozS_app, ozS, ozS, Int32.zero_add, Nat.zero_add, g1, ← g2, ← nI_1] at key
        exact key
      · rw [if_neg (fun q => e ((nI_eq (by omega) (by omega)).mp q))]
        refine ⟨σ, rfl, ?_⟩
        rw [if_neg]
        · exact hσ
        · intro q
          have q2 := congrArg (fun l => l.take (i + 1)) q
          simp only [List.take_take, show min (i + 1) N = i + 1 by omega] at q2
          rw [et, eu, he] at q2
          have q3 := List.append_cancel_left q2
          simp only [List.cons.injEq, and_true] at q3
          exact e q3
  exact key N 0 FU (by omega) (by rw [FU_eq]; omega) rfl
theorem step29 (LW : Nat → Nat → LD → St → St → Prop) (hc : CongrL LW) : Step_29 (RelOf (RelB LW)) := by
  intro a b c x m h
  obtain ⟨hA, ld, bk, L, s1, hb, hla, hw, hd⟩ := id h
  have h12 := hla.2.1.1
  have X := e_X10_row a b c x
  have M := e_X11_row a b c m
  dsimp only [ltt] at X
  rw [s1.1, if_pos (landB_of s1.2.1), holdsT_X hla] at X
  rw [isT_M hb hla] at M
  dsimp only [Option.bind] at X M
  cases hp : inb a L.nt
  · rw [hp, if_pos (by decide)] at X M
    exact ⟨_, _, _, X, M, h⟩
  rw [hp, if_neg (by decide)] at X M
  rw [holdsT_X hla] at X
  rw [isT_M hb hla] at M
  dsimp only at X M
  cases hq : inb b L.nt
  · rw [hq, if_pos (by decide)] at X M
    exact ⟨_, _, _, X, M, h⟩
  rw [hq, if_neg (by decide)] at X M
  by_cases hab : a = b
  · rw [if_pos hab] at X M
    exact ⟨_, _, _, X, M, h⟩
  rw [if_neg hab] at X M
  obtain ⟨t, ht, rfl⟩ := inb_of hp (by omega)
  obtain ⟨u, hu, rfl⟩ := inb_of hq (by omega)
  obtain ⟨p1, p6, hpc⟩ := nmT hla ht
  obtain ⟨q1, q6, hqc⟩ := nmT hla hu
  rw [show (2 : Int32) = nI 3 - 1 from rfl, is_M (by omega)] at M
  dsimp only at M
  cases hr : inb c 3
  · rw [hr, if_pos (by decide)] at M
    have n0 : ¬ c = 0 := fun e => by rw [e] at hr; revert hr; decide
    have n1 : ¬ c = 1 := fun e => by rw [e] at hr; revert hr; decide
    have n2 : ¬ c = 2 := fun e => by rw [e] at hr; revert hr; decide
    rw [if_neg n0, if_neg n1, if_neg n2] at X
    exact ⟨_, _, _, X, M, h⟩
  rw [hr, if_neg (by decide)] at M
  obtain ⟨V, v6, vb, vx, vo⟩ := row_X s1 hla ht hu
  -- the reference
  have m0 : StR m (0, 0) (sI (sI m 0 68 0) 0 69 0) := ⟨(ScM.sI rfl).tr (ScM.sI rfl), by rw [gI_sI, if_neg (by decide), gI_sI, if_pos ⟨rfl, rfl⟩]; rfl, by rw [gI_sI, if_pos ⟨rfl, rfl⟩], by omega⟩
  dsimp only [ltt] at M
  obtain ⟨m1, hm1, em1⟩ := loop_exF (fun n (σ : St) i => f_X11_row_45 n (nI t) (nI u) c (nI i) σ) (fun σ => f_X11_row_72 FU (nI t) (nI u) c 0 σ) (L.tn t).length (by omega) (fun i σ => StR m (itr (tryF (ozS x (ld + 16) 0) (L.tn t) (L.tn u)) i (0, 0) 0) σ) (fun n σ hσ => by
    obtain ⟨s', b', l', d'⟩ := scrP (ScX.rf x) hσ.1 s1 hb hla hd
    rw [e_X11_row_45, lenT_M b' l' ht]
    dsimp only [Option.bind]
    rw [if_pos (nI_le (Nat.le_refl _) (by omega))]) (fun n σ i hi hσ => by
    obtain ⟨s', b', l', d'⟩ := scrP (ScX.rf x) hσ.1 s1 hb hla hd
    obtain ⟨σ', e', h'⟩ := tries_M s1 hb hla hd ht hu hi hσ
    refine ⟨σ', ?_, ?_⟩
    · rw [e_X11_row_45, lenT_M b' l' ht]
      dsimp only [Option.bind]
      rw [if_neg (nI_ge hi (by omega)), e', nI_1]
    · rw [itr_snoc, Nat.zero_add]; exact h') _ m0
  replace em1 : f_X11_row_45 FU (nI t) (nI u) c 0 (sI (sI m 0 68 0) 0 69 0) = f_X11_row_72 FU (nI t) (nI u) c 0 m1 := em1
  rw [em1] at M
  obtain ⟨m2, hm2, em2⟩ := loop_exF (fun n (σ : St) i => f_X11_row_72 n (nI t) (nI u) c (nI i) σ) (fun σ => if c = 0 then ((f_X11_lengthOf (nI t) σ).bind fun q2 => (f_X11_lengthOf (nI u) q2.2).bind fun q3 => some ((q2.1 + q3.1) - (gI q3.2 0 68), q3.2)) else (if c = (1 : Int32) then ((f_X11_ouncesOf (nI t) σ).bind fun q4 => (f_X11_ouncesOf (nI u) q4.2).bind fun q5 => some ((q4.1 + q5.1) - (gI q5.2 0 69), q5.2)) else (some (gI σ 0 68, σ)))) (L.tn u).length (by omega) (fun i σ => StR m (itr (tryF (ozS x (ld + 16) 0) (L.tn u) (L.tn t)) i (itr (tryF (ozS x (ld + 16) 0) (L.tn t) (L.tn u)) (L.tn t).length (0, 0) 0) 0) σ) (fun n σ hσ => by
    obtain ⟨s', b', l', d'⟩ := scrP (ScX.rf x) hσ.1 s1 hb hla hd
    rw [e_X11_row_72, lenT_M b' l' hu]
    dsimp only [Option.bind]
    rw [if_pos (nI_le (Nat.le_refl _) (by omega))]) (fun n σ i hi hσ => by
    obtain ⟨s', b', l', d'⟩ := scrP (ScX.rf x) hσ.1 s1 hb hla hd
    obtain ⟨σ', e', h'⟩ := tries_M s1 hb hla hd hu ht hi hσ
    refine ⟨σ', ?_, ?_⟩
    · rw [e_X11_row_72, lenT_M b' l' hu]
      dsimp only [Option.bind]
      rw [if_neg (nI_ge hi (by omega)), e', nI_1]
    · rw [itr_snoc, Nat.zero_add]; exact h') _ hm1
  have em3 : f_X11_row_72 FU (nI t) (nI u) c 0 m1 = _ := em2
  rw [em3] at M
  rw [vb.un (IsB_M _ _ _)] at vx vo
  obtain ⟨k1, k2, k3, -⟩ := hm2
  obtain ⟨s', b', l', d'⟩ := scrP (ScX.rf x) k1 s1 hb hla hd
  rw [lenT_M b' l' ht, ozT_M b' l' ht] at M
  dsimp only [Option.bind] at M
  rw [lenT_M b' l' hu, ozT_M b' l' hu] at M
  dsimp only at M
  rw [k2, k3] at M
  by_cases c0 : c = 0
  · rw [if_pos c0] at X M
    rw [e_X4_pairLength, nameT_X s1 hla ht] at X
    dsimp only [Option.bind] at X
    rw [len_X hpc p6] at X
    dsimp only at X
    rw [nameT_X s1 hla hu] at X
    dsimp only at X
    rw [len_X hqc q6] at X
    dsimp only at X
    rw [vx] at X
    dsimp only at X
    exact ⟨_, _, _, X, M, scr hc (ScX.rf x) k1 h⟩
  rw [if_neg c0] at X M
  by_cases c1 : c = 1
  · rw [if_pos c1] at X M
    rw [vo] at X
    dsimp only [Option.bind] at X
    exact ⟨_, _, _, X, M, scr hc (ScX.rf x) k1 h⟩
  rw [if_neg c1] at X M
  have c2 : c = 2 := by
    obtain ⟨j, hj, rfl⟩ := inb_of hr (by omega)
    have : j = 0 ∨ j = 1 ∨ j = 2 := by omega
    rcases this with rfl | rfl | rfl
    · exact absurd rfl c0
    · exact absurd rfl c1
    · rfl
  rw [if_pos c2, vx] at X
  dsimp only [Option.bind] at X
  exact ⟨_, _, _, X, M, scr hc (ScX.rf x) k1 h⟩
end Row
