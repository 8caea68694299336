/-! ===== the laws' code: what both keep of it, and its run ===== -/
-- a step of a law: (0, n) a number; (1, j) a fact; (2, _) always; (3, k) so many times not; (4, k) an operation
abbrev Tok : Type := Nat × Nat
def tkX (t : Tok) : List Int32 := if t.1 = 0 then [nI t.2] else if t.1 = 1 then [vI (-1 - (t.2 : Int))] else if t.1 = 2 then [1] else if t.1 = 3 then (if t.2 % 2 = 1 then [-6] else []) else [xo t.2]
def tkM (t : Tok) : List (Int32 × Int32) := if t.1 = 0 then [(0, nI t.2)] else if t.1 = 1 then [(nI (1 + t.2), 0)] else if t.1 = 2 then [(9, 0)] else if t.1 = 3 then List.replicate t.2 (22, 0) else [(mo t.2, 0)]
def cX : List Tok → List Int32
  | [] => []
  | t :: l => tkX t ++ cX l
def cM : List Tok → List (Int32 × Int32)
  | [] => []
  | t :: l => tkM t ++ cM l
def tkT (t : Tok) (ts : List Bool) : Option (List Bool) :=
  if t.1 = 0 then (if t.2 ≤ 1000000 ∧ ts.length < 64 then some (false :: ts) else none)
  else if t.1 = 1 then (if t.2 < 5 ∧ ts.length < 64 then some (false :: ts) else none)
  else if t.1 = 2 then (if ts.length < 64 then some (true :: ts) else none)
  else if t.1 = 3 then (match ts with | true :: r => some (true :: r) | _ => none)
  else (match ts with
    | b :: a :: r => if t.2 < 2 then (if a = true ∧ b = true then some (true :: r) else none) else if t.2 < 5 then (if a = false ∧ b = false then some (true :: r) else none) else if t.2 < 12 then (if a = false ∧ b = false then some (false :: r) else none) else none
    | _ => none)
def chk : List Tok → List Bool → Option (List Bool)
  | [], ts => some ts
  | t :: l, ts => (tkT t ts).bind (chk l)
def tkS (F : Nat → Int) (t : Tok) (st : List Int) : List Int :=
  if t.1 = 0 then (t.2 : Int) :: st else if t.1 = 1 then F t.2 :: st else if t.1 = 2 then 1 :: st
  else if t.1 = 3 then (match st with | a :: r => (if t.2 % 2 = 1 then 1 - a else a) :: r | _ => st)
  else (match st with | b :: a :: r => opv t.2 a b :: r | _ => st)
def ev (F : Nat → Int) : List Tok → List Int → List Int
  | [], st => st
  | t :: l, st => ev F l (tkS F t st)
def Ty : List Int → List Bool → Prop
  | [], [] => True
  | z :: st, b :: ts => (Sm z ∧ (b = true → Tr z)) ∧ Ty st ts
  | _, _ => False
theorem Ty.len : ∀ {st ts}, Ty st ts → st.length = ts.length := by
  intro st
  induction st with
  | nil => intro ts h; cases ts with
    | nil => rfl
    | cons b ts => exact h.elim
  | cons z st ih => intro ts h; cases ts with
    | nil => exact h.elim
    | cons b ts => rw [List.length_cons, List.length_cons, ih h.2]
theorem chk_app (l k : List Tok) (ts : List Bool) : chk (l ++ k) ts = (chk l ts).bind (chk k) := by
  induction l generalizing ts with
  | nil => rfl
  | cons t l ih =>
    show (tkT t ts).bind (chk (l ++ k)) = ((tkT t ts).bind (chk l)).bind (chk k)
    cases tkT t ts with
    | none => rfl
    | some u => exact ih u
theorem cX_app (l k : List Tok) : cX (l ++ k) = cX l ++ cX k := by
  induction l with
  | nil => rfl
  | cons t l ih => show tkX t ++ cX (l ++ k) = (tkX t ++ cX l) ++ cX k; rw [ih, List.append_assoc]
theorem cM_app (l k : List Tok) : cM (l ++ k) = cM l ++ cM k := by
  induction l with
  | nil => rfl
  | cons t l ih => show tkM t ++ cM (l ++ k) = (tkM t ++ cM l) ++ cM k; rw [ih, List.append_assoc]
def CodeX (x : St) (o a : Nat) (l : List Int32) : Prop := ∀ k (h : k < l.length), gI x o (a + k) = l[k]
def CodeM (m : St) (a : Nat) (l : List (Int32 × Int32)) : Prop := ∀ k (h : k < l.length), gI m 24 (a + k) = l[k].1 ∧ (l[k].1 = 0 → gI m 25 (a + k) = l[k].2)
theorem CodeX.l {x : St} {o a : Nat} {l k : List Int32} (h : CodeX x o a (l ++ k)) : CodeX x o a l := fun i hi => by
  rw [h i (by rw [List.length_append]; omega), List.getElem_append_left hi]
theorem CodeX.r {x : St} {o a : Nat} {l k : List Int32} (h : CodeX x o a (l ++ k)) : CodeX x o (a + l.length) k := fun i hi => by
  have := h (l.length + i) (by rw [List.length_append]; omega)
  rw [List.getElem_append_right (by omega)] at this
  rw [Nat.add_assoc, this]
  congr 1
  omega
theorem CodeM.l {x : St} {a : Nat} {l k : List (Int32 × Int32)} (h : CodeM x a (l ++ k)) : CodeM x a l := fun i hi => by
  have := h i (by rw [List.length_append]; omega)
  rw [List.getElem_append_left hi] at this
  exact this
theorem CodeM.r {x : St} {a : Nat} {l k : List (Int32 × Int32)} (h : CodeM x a (l ++ k)) : CodeM x (a + l.length) k := fun i hi => by
  have := h (l.length + i) (by rw [List.length_append]; omega)
  rw [List.getElem_append_right (by omega)] at this
  simp only [Nat.add_sub_cancel_left] at this
  rw [Nat.add_assoc]
  exact this
def LW (ld bk : Nat) (L : LD) (x m : St) : Prop := ∀ i, i < L.nl → ∃ (s t : List Tok) (a b : Nat), chk s [] = some [false] ∧ chk t [] = some [true] ∧
  gI x (ld + 12) (3 * i) = nI a ∧ gI x (ld + 12) (3 * i + 1) = nI (a + (cX s).length) ∧ gI x (ld + 12) (3 * i + 2) = nI (a + (cX s).length + (cX t).length) ∧ a + (cX s).length + (cX t).length ≤ 1600 ∧ CodeX x (ld + 19) a (cX s ++ cX t) ∧
  gI m 17 (8 * bk + i) = nI b ∧ gI m 18 (8 * bk + i) = nI (b + (cM s).length) ∧ gI m 19 (8 * bk + i) = nI (b + (cM s).length + (cM t).length) ∧ b + (cM s).length + (cM t).length ≤ 1600 ∧ CodeM m (1600 * bk + b) (cM s ++ cM t)
theorem LW_c : CongrL LW := by
  intro ld bk L x m x' m' hx hm hld hb h i hi
  have xl : ∀ j k, j ≤ 19 → gI x' (ld + j) k = gI x (ld + j) k := by
    intro j k hj
    refine hx.1 _ _ ?_
    rcases hld with rfl | rfl <;> simp [xS] <;> omega
  obtain ⟨s, t, a, b, h1, h2, h3, h4, h5, h6, h7, h8, h9, h10, h11, h12⟩ := h i hi
  refine ⟨s, t, a, b, h1, h2, by rw [xl 12 _ (by omega)]; exact h3, by rw [xl 12 _ (by omega)]; exact h4, by rw [xl 12 _ (by omega)]; exact h5, h6, fun k hk => by rw [xl 19 _ (by omega)]; exact h7 k hk, by rw [hm.1 17 _ rfl]; exact h8, by rw [hm.1 18 _ rfl]; exact h9, by rw [hm.1 19 _ rfl]; exact h10, h11, fun k hk => ?_⟩
  rw [hm.1 24 _ rfl, hm.1 25 _ rfl]; exact h12 k hk
-- the run, here
def StkX (σ : St) : List Int → Prop
  | [] => True
  | z :: r => gI σ 16 r.length = vI z ∧ StkX σ r
theorem StkX.c {σ σ' : St} {st : List Int} (h : StkX σ st) (g : ∀ k, k < st.length → gI σ' 16 k = gI σ 16 k) : StkX σ' st := by
  induction st with
  | nil => trivial
  | cons z r ih => exact ⟨by rw [g _ (by rw [List.length_cons]; omega)]; exact h.1, ih h.2 (fun k hk => g k (by rw [List.length_cons]; omega))⟩
def SX (x : St) (F : Nat → Int) (st : List Int) (σ : St) : Prop := ScX x σ ∧ st.length ≤ 64 ∧ gI σ 15 2 = nI st.length ∧ (∀ j, j < 5 → gI σ 17 j = vI (F j)) ∧ StkX σ st
theorem pop_X {x : St} {F : Nat → Int} {z : Int} {st : List Int} {σ : St} (h : SX x F (z :: st) σ) : ∃ σ', f_X0_pop σ = some (vI z, σ') ∧ SX x F st σ' := by
  obtain ⟨h1, h2, h3, h4, h5, h6⟩ := h
  rw [List.length_cons] at h2 h3
  rw [e_X0_pop, h3, if_pos (show (0 : Int32) < nI (st.length + 1) from nI_lt (a := 0) (by omega) (by omega)), nI_pred]
  dsimp only [ltt]
  have g : gI (sI σ 15 2 (nI st.length)) 15 2 = nI st.length := by rw [gI_sI, if_pos ⟨rfl, rfl⟩]
  rw [g, if_pos (inb_nI (by omega) (by omega)), ix_nI (by omega), gI_sI, if_neg (by omega), h5]
  refine ⟨_, rfl, h1.tr (ScX.sI rfl), by omega, by rw [gI_sI, if_pos ⟨rfl, rfl⟩], fun j hj => by rw [gI_sI, if_neg (by omega)]; exact h4 j hj, h6.c (fun k _ => by rw [gI_sI, if_neg (by omega)])⟩
theorem push_X {x : St} {F : Nat → Int} {st : List Int} {σ : St} (h : SX x F st σ) (hl : st.length < 64) (z : Int) : ∃ σ', f_X0_push (vI z) σ = some ((), σ') ∧ SX x F (z :: st) σ' := by
  obtain ⟨h1, h2, h3, h4, h5⟩ := h
  rw [e_X0_push, h3, if_neg (show ¬ (64 : Int32) ≤ nI st.length from nI_ge (b := 64) hl (by omega)), if_pos (inb_nI hl (by omega)), ix_nI (by omega)]
  dsimp only [ltt]
  rw [gI_sI, if_neg (by omega), h3, nI_1]
  refine ⟨_, rfl, (h1.tr (ScX.sI rfl)).tr (ScX.sI rfl), by rw [List.length_cons]; omega, by rw [gI_sI, if_pos ⟨rfl, rfl⟩, List.length_cons], fun j hj => by rw [gI_sI, if_neg (by omega), gI_sI, if_neg (by omega)]; exact h4 j hj, ⟨by rw [gI_sI, if_neg (by omega), gI_sI, if_pos ⟨rfl, rfl⟩], h5.c (fun k hk => by rw [gI_sI, if_neg (by omega), gI_sI, if_neg (by omega)])⟩⟩
theorem vI_pos {n : Nat} (h : n < 2 ^ 31) : ¬ nI n < 0 := nI_pos h
theorem not_X (a : Int) : (1 : Int32) - vI a = vI (1 - a) := by show Int32.ofInt 1 - Int32.ofInt a = Int32.ofInt (1 - a); rw [Int32.ofInt_sub]
theorem xo_neg : ∀ k, k < 12 → xo k < 0 ∧ xo k < -5 ∧ ¬ xo k = -6 := by decide +kernel
theorem runX {x : St} {F : Nat → Int} {o : Nat} (hF : ∀ j, j < 5 → Sm (F j)) (hln : lnX o = 1600) (ho : xS o = false) : ∀ (l : List Tok) (st : List Int) (ts ts' : List Bool) (σ : St) (i c : Nat), chk l ts = some ts' → Ty st ts → CodeX x o i (cX l) → i + (cX l).length ≤ c → c ≤ 1600 → SX x F st σ → ∃ σ', SX x F (ev F l st) σ' ∧ Ty (ev F l st) ts' ∧ ∀ n, f_X0_run_12 o (n + (cX l).length) (nI c) (nI i) σ = f_X0_run_12 o n (nI c) (nI (i + (cX l).length)) σ' := by
  intro l
  induction l with
  | nil =>
    intro st ts ts' σ i c hk ht hc h1 h2 hσ
    cases hk
    exact ⟨σ, hσ, ht, fun n => rfl⟩
  | cons t l ih =>
    intro st ts ts' σ i c hk ht hc h1 h2 hσ
    have hlen := ht.len
    have e0 : cX (t :: l) = tkX t ++ cX l := rfl
    rw [e0] at hc h1 ⊢
    rw [List.length_append] at h1 ⊢
    show ∃ σ', SX x F (ev F l (tkS F t st)) σ' ∧ Ty (ev F l (tkS F t st)) ts' ∧ _
    have hk : (tkT t ts).bind (chk l) = some ts' := hk
    -- one step of the run, where the code has one number
    have one : ∀ (v : Int32) (ts1 : List Bool), tkX t = [v] → tkT t ts = some ts1 → Ty (tkS F t st) ts1 → (∃ σ1, SX x F (tkS F t st) σ1 ∧ ∀ n, f_X0_run_12 o (n + 1) (nI c) (nI i) σ = f_X0_run_12 o n (nI c) (nI (i + 1)) σ1) → ∃ σ', SX x F (ev F l (tkS F t st)) σ' ∧ Ty (ev F l (tkS F t st)) ts' ∧ ∀ n, f_X0_run_12 o (n + ((tkX t).length + (cX l).length)) (nI c) (nI i) σ = f_X0_run_12 o n (nI c) (nI (i + ((tkX t).length + (cX l).length))) σ' := by
      intro v ts1 ev1 et ty ⟨σ1, s1, r1⟩
      rw [et] at hk
      rw [ev1] at hc h1 ⊢
      rw [List.length_singleton] at h1 ⊢
      obtain ⟨σ', g1, g2, g3⟩ := ih (tkS F t st) ts1 ts' σ1 (i + 1) c hk ty hc.r (by omega) h2 s1
      refine ⟨σ', g1, g2, fun n => ?_⟩
      rw [show n + (1 + (cX l).length) = (n + (cX l).length) + 1 by omega, r1, g3, show i + 1 + (cX l).length = i + (1 + (cX l).length) by omega]
    -- what stands at i
    have cell : ∀ v, tkX t = [v] → gI σ o i = v ∧ i < 1600 ∧ i < c := by
      intro v e
      rw [e] at hc h1
      rw [List.length_singleton] at h1
      have := hc 0 (by rw [List.length_append, List.length_singleton]; omega)
      exact ⟨by rw [hσ.1.1 o i ho]; exact this, by omega, by omega⟩
    have hd : ∀ v n, tkX t = [v] → f_X0_run_12 o (n + 1) (nI c) (nI i) σ = if v < 0 then (if v < (-5 : Int32) then (if v = (-6 : Int32) then ((f_X0_pop σ).bind fun q4 => (f_X0_push ((1 : Int32) - q4.1) q4.2).bind fun q5 => (f_X0_run_12 o n) (nI c) (nI (i + 1)) q5.2) else ((f_X0_pop σ).bind fun q6 => (f_X0_pop q6.2).bind fun q7 => (f_X0_joined v ((q7.1).toInt64) ((q6.1).toInt64) q7.2).bind fun q8 => (f_X0_held q8.1 q8.2).bind fun q9 => (f_X0_push q9.1 q9.2).bind fun q10 => (f_X0_run_12 o n) (nI c) (nI (i + 1)) q10.2)) else (if inb ((-1 : Int32) - v) 5 = true then ((f_X0_push (gI σ 17 (ix ((-1 : Int32) - v))) σ).bind fun q11 => (f_X0_run_12 o n) (nI c) (nI (i + 1)) q11.2) else none)) else ((f_X0_push v σ).bind fun q12 => (f_X0_run_12 o n) (nI c) (nI (i + 1)) q12.2) := by
      intro v n e
      obtain ⟨c1, c2, c3⟩ := cell v e
      rw [e_X0_run_12, if_neg (nI_ge c3 (by omega)), hln, show Int32.ofNat 1600 = nI 1600 from rfl, if_neg (nI_ge c2 (by omega)), if_pos (inb_nI c2 (by omega)), ix_nI (by omega), c1, nI_1]
      rfl
    unfold tkT at hk one
    unfold tkS at one ⊢
    unfold tkX at one cell hd ⊢
    by_cases k0 : t.1 = 0
    · simp only [if_pos k0] at hk one cell hd ⊢
      by_cases q : t.2 ≤ 1000000 ∧ ts.length < 64
      · refine one (nI t.2) (false :: ts) rfl (if_pos q) ⟨⟨?_, fun e => by cases e⟩, ht⟩ ?_
        · unfold Sm; omega
        · obtain ⟨σ1, p1, p2⟩ := push_X hσ (by omega) (t.2 : Int)
          refine ⟨σ1, p2, fun n => ?_⟩
          rw [hd _ n rfl, if_neg (nI_pos (by omega)), vI_n, p1]
          rfl
      · rw [if_neg q] at hk; cases hk
    simp only [if_neg k0] at hk one cell hd ⊢
    by_cases k1 : t.1 = 1
    · simp only [if_pos k1] at hk one cell hd ⊢
      by_cases q : t.2 < 5 ∧ ts.length < 64
      · refine one _ (false :: ts) rfl (if_pos q) ⟨⟨hF _ q.1, fun e => by cases e⟩, ht⟩ ?_
        obtain ⟨σ1, p1, p2⟩ := push_X hσ (by omega) (F t.2)
        refine ⟨σ1, p2, fun n => ?_⟩
        have fx : ∀ j : Nat, j < 5 → vI (-1 - (j : Int)) < 0 ∧ ¬ vI (-1 - (j : Int)) < -5 ∧ -1 - vI (-1 - (j : Int)) = nI j := by decide +kernel
        obtain ⟨w1, w2, w3⟩ := fx t.2 q.1
        rw [hd _ n rfl, if_pos w1, if_neg w2, w3, if_pos (inb_nI q.1 (by omega)), ix_nI (by omega), hσ.2.2.2.1 _ q.1, p1]
        rfl
      · rw [if_neg q] at hk; cases hk
    simp only [if_neg k1] at hk one cell hd ⊢
    by_cases k2 : t.1 = 2
    · simp only [if_pos k2] at hk one cell hd ⊢
      by_cases q : ts.length < 64
      · refine one 1 (true :: ts) rfl (if_pos q) ⟨⟨by unfold Sm; omega, fun _ => Or.inr rfl⟩, ht⟩ ?_
        obtain ⟨σ1, p1, p2⟩ := push_X hσ (by omega) 1
        refine ⟨σ1, p2, fun n => ?_⟩
        rw [hd _ n rfl, if_neg (by decide), show (1 : Int32) = vI 1 from rfl, p1]
        rfl
      · rw [if_neg q] at hk; cases hk
    simp only [if_neg k2] at hk one cell hd ⊢
    by_cases k3 : t.1 = 3
    · simp only [if_pos k3] at hk one cell hd ⊢
      match ts, hk, ht, hlen, one with
      | [], hk, _, _, _ => cases hk
      | false :: r, hk, _, _, _ => cases hk
      | true :: r, hk, ht, hlen, one =>
        match st, ht, hσ, one with
        | [], ht, _, _ => exact ht.elim
        | a :: sr, ht, hσ, one =>
          have tra := ht.1.2 rfl
          by_cases q : t.2 % 2 = 1
          · simp only [if_pos q] at one cell hd ⊢
            have tr1 : Tr (1 - a) := by rcases tra with e | e <;> (unfold Tr; omega)
            refine one (-6) (true :: r) rfl rfl ⟨⟨tr1.sm, fun _ => tr1⟩, ht.2⟩ ?_
            obtain ⟨σ1, p1, p2⟩ := pop_X hσ
            have hl := hσ.2.1
            rw [List.length_cons] at hl
            obtain ⟨σ2, p3, p4⟩ := push_X p2 (by omega) (1 - a)
            refine ⟨σ2, p4, fun n => ?_⟩
            rw [hd _ n rfl, if_pos (by decide), if_pos (by decide), if_pos rfl, p1]
            dsimp only [Option.bind]
            rw [not_X, p3]
          · simp only [if_neg q] at hc h1 ⊢
            have hc' : CodeX x o i (cX l) := by
              have := hc
              unfold tkX at this
              simp only [if_neg k0, if_neg k1, if_neg k2, if_pos k3, if_neg q] at this
              exact this
            have h1' : i + (cX l).length ≤ c := by omega
            obtain ⟨σ', g1, g2, g3⟩ := ih (a :: sr) (true :: r) ts' σ i c hk ht hc' h1' h2 hσ
            refine ⟨σ', g1, g2, fun n => ?_⟩
            rw [List.length_nil, Nat.zero_add]
            exact g3 n
    simp only [if_neg k3] at hk one cell hd ⊢
    match ts, hk, ht, one with
    | [], hk, _, _ => cases hk
    | [b], hk, _, _ => cases hk
    | tb :: ta :: r, hk, ht, one =>
      match st, ht, hσ, one with
      | [], ht, _, _ => exact ht.elim
      | [b], ht, _, _ => exact ht.2.elim
      | b :: a :: sr, ht, hσ, one =>
        dsimp only at hk one ⊢
        have key : ∀ tt, t.2 < 12 → (t.2 < 2 → Tr a ∧ Tr b) → (if t.2 < 2 then (if ta = true ∧ tb = true then some (true :: r) else none) else if t.2 < 5 then (if ta = false ∧ tb = false then some (true :: r) else none) else if t.2 < 12 then (if ta = false ∧ tb = false then some (false :: r) else none) else none) = some (tt :: r) → (tt = true → t.2 < 5) → ∃ σ', SX x F (ev F l (opv t.2 a b :: sr)) σ' ∧ Ty (ev F l (opv t.2 a b :: sr)) ts' ∧ ∀ n, f_X0_run_12 o (n + ([xo t.2].length + (cX l).length)) (nI c) (nI i) σ = f_X0_run_12 o n (nI c) (nI (i + ([xo t.2].length + (cX l).length))) σ' := by
          intro tt hlt htr het htt
          have os := opv_s (k := t.2) ht.2.1.1 ht.1.1 htr
          refine one (xo t.2) (tt :: r) rfl het ⟨⟨os.1, fun e => os.2 (htt e)⟩, ht.2.2⟩ ?_
          obtain ⟨σ1, p1, p2⟩ := pop_X hσ
          obtain ⟨σ2, p3, p4⟩ := pop_X p2
          obtain ⟨z, z1, z2, z3⟩ := joined_X (k := t.2) ht.2.1.1 ht.1.1 htr σ2
          have hl := hσ.2.1
          rw [List.length_cons, List.length_cons] at hl
          obtain ⟨σ3, p5, p6⟩ := push_X p4 (by omega) (opv t.2 a b)
          refine ⟨σ3, p6, fun n => ?_⟩
          obtain ⟨w1, w2, w3⟩ := xo_neg t.2 hlt
          have sa := ht.2.1.1
          have sb := ht.1.1
          unfold Sm at sa sb
          rw [hd _ n rfl, if_pos w1, if_pos w2, if_neg w3, p1]
          dsimp only [Option.bind]
          rw [p3]
          dsimp only
          rw [vL_I (by omega) (by omega), vL_I (by omega) (by omega), z3]
          dsimp only
          rw [held_X z1.1 z1.2, z2]
          dsimp only
          rw [p5]
        by_cases q2 : t.2 < 2
        · by_cases q : ta = true ∧ tb = true
          · exact key true (by omega) (fun _ => ⟨ht.2.1.2 q.1, ht.1.2 q.2⟩) (by rw [if_pos q2, if_pos q]) (fun _ => by omega)
          · rw [if_pos q2, if_neg q] at hk; cases hk
        · by_cases q5 : t.2 < 5
          · by_cases q : ta = false ∧ tb = false
            · exact key true (by omega) (fun e => absurd e q2) (by rw [if_neg q2, if_pos q5, if_pos q]) (fun _ => q5)
            · rw [if_neg q2, if_pos q5, if_neg q] at hk; cases hk
          · by_cases q12 : t.2 < 12
            · by_cases q : ta = false ∧ tb = false
              · exact key false q12 (fun e => absurd e q2) (by rw [if_neg q2, if_neg q5, if_pos q12, if_pos q]) (fun e => by cases e)
              · rw [if_neg q2, if_neg q5, if_pos q12, if_neg q] at hk; cases hk
            · rw [if_neg q2, if_neg q5, if_neg q12] at hk; cases hk
