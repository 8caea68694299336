/-! ===== a law is read: what a piece of it leaves in both ===== -/
def Ex (s : List Tok) (ty : Bool) (H : Nat) : Prop := ∀ ts : List Bool, ts.length ≤ H → chk s ts = some (ty :: ts)
def BadR (t : Nat → Nat) (n p A ls ib : Nat) (b : Bool) (x m x' : St) : Prop := ∃ m' j, j ≤ n - p + 2 ∧ (∀ N, f_X11_reads_43 (N + j) 1 m = some ((), m')) ∧ BF ls ib x m x' m' ∧ ¬ gI m' 0 8 = 0 ∧ ∃ A', gI x' ls 9 = nI A' ∧ A' ≤ 1600 ∧ (Bd x' m' ∨ (b = true ∧ ∃ p', NX t n p' x' m' ∧ p ≤ p' ∧ A' ≤ A + (p' - p)))
def PS (t : Nat → Nat) (n ls ib p A B D q bs k : Nat) (pr : Int32) (p' c ph j : Nat) (s : List Tok) (E : List (Int32 × Int32)) (W : List Nat) (x m x' m' : St) : Prop :=
  (p < p' ∧ NXc t n p' c x' m') ∧ XFr ls A x x' ∧ MF ib B D q m m' ∧ LSt ib (B + E.length) D (q + W.length) bs k ph 0 pr true m' ∧ (CodeX x' (ls + 19) A (cX s) ∧ gI x' ls 9 = nI (A + (cX s).length)) ∧ (CodeM m' (1600 * ib + B) E ∧ Ops m' q W ∧ cM s = E ++ pW W) ∧ ((cX s).length ≤ p' - p ∧ (cM s).length ≤ p' - p) ∧ (j ≤ p' - p ∧ ∀ N, f_X11_reads_43 (N + j) 1 m = f_X11_reads_43 N 1 m')
def MI (t : Nat → Nat) (n ls ib p A B D q bs k : Nat) (pr : Int32) (p' c ph bg j : Nat) (s : List Tok) (V : List Nat) (x m x' m' : St) : Prop :=
  (p < p' ∧ NXc t n p' c x' m') ∧ XFr ls A x x' ∧ MF ib B D q m m' ∧ LSt ib (B + (cM s).length) D (q + V.length) bs k ph bg pr false m' ∧ (CodeX x' (ls + 19) A (cX s) ∧ gI x' ls 9 = nI (A + (cX s).length)) ∧ (CodeM m' (1600 * ib + B) (cM s) ∧ Ops m' q V) ∧ ((cX s).length + 1 ≤ p' - p ∧ (cM s).length + V.length ≤ p' - p) ∧ (j ≤ p' - p ∧ ∀ N, f_X11_reads_43 (N + j) 1 m = f_X11_reads_43 N 1 m')
def Cx (n ls ib p A B D q bs k cc : Nat) (x : St) : Prop := isLand ls ∧ gR x 5 1 = ls ∧ (n ≤ 1600 ∧ ib < 2 ∧ D ≤ 8 ∧ bs ≤ q ∧ A ≤ p ∧ B + q ≤ p ∧ 1 ≤ p ∧ 4 * q ≤ p + 20 * D + cc ∧ k ≤ 5)
def Gd (t : Nat → Nat) (n ls ib p A B D q bs k : Nat) (pr : Int32) (H r wc : Nat) (ty : Bool) (Ψ : Nat → Nat → Prop) (x m x' : St) : Prop := ∃ p' c ph j s E W m', PS t n ls ib p A B D q bs k pr p' c ph j s E W x m x' m' ∧ Ex s ty H ∧ Ψ ph c ∧ (∀ w ∈ W, r ≤ rk w ∧ w < 100) ∧ 4 * W.length ≤ (p' - p) + wc
def Ctr (t : Nat → Nat) (n ls ib p A B D q bs k : Nat) (pr : Int32) (H r wc : Nat) (ty : Bool) (Ψ : Nat → Nat → Prop) (f : Option (Int32 × St)) (x m : St) : Prop := ∃ b x', f = some (bi b, x') ∧ (BadR t n p A ls ib b x m x' ∨ (b = true ∧ Gd t n ls ib p A B D q bs k pr H r wc ty Ψ x m x'))
/-- a piece that is read in a broken text says no -/
def BadF (t : Nat → Nat) (n ls ib : Nat) (g : St → Option (Int32 × St)) : Prop := ∀ p A b x m x', BadR t n p A ls ib b x m x' → ∃ y, g x' = some (0, y) ∧ BadR t n p A ls ib false x m y
section Ct
variable {t : Nat → Nat} {n ls ib p A B D q bs k : Nat} {pr : Int32} {b : Bool} {x m x' m' x1 m1 : St}
theorem BadR.to (h : BadR t n p A ls ib false x m x') : BadR t n p A ls ib b x m x' := by
  obtain ⟨m', j, h1, h2, h3, h4, A', h5, h6, h7 | h7⟩ := h
  · exact ⟨m', j, h1, h2, h3, h4, A', h5, h6, .inl h7⟩
  · cases h7.1
theorem BadR.lk (hl : isLand ls) (h : BadR t n p A ls ib b x m x') : ∃ x1, f_X6_look x' = some (303, x1) ∧ BadR t n p A ls ib false x m x1 := by
  have hls := land_o hl
  obtain ⟨m', j, h1, h2, h3, h4, A', h5, h6, h7 | ⟨-, p', h7, -⟩⟩ := h
  · exact ⟨x', h7.look, m', j, h1, h2, h3, h4, A', h5, h6, .inl h7⟩
  · rcases h7.lk with ⟨x1, e1, e2, e3, e4⟩ | ⟨c, a, e, l, v, x1, e1, e2, e3, hT⟩
    · exact ⟨x1, e1, m', j, h1, h2, h3.tr (BF.tt e2 (TM.rf _)), h4, A', (e2.1 _ _ (by omega) (by omega)).trans h5, h6, .inl e4⟩
    · exact absurd hT.2.2.2.2.1 h4
theorem BadR.here (h : BadR t n p A ls ib false x m x') (i : Int32) : f_X6_failHere i x' = some (0, x') := by
  obtain ⟨m', j, h1, h2, h3, h4, A', h5, h6, h7 | h7⟩ := h
  · exact h7.here i
  · cases h7.1
theorem BadR.look (h : BadR t n p A ls ib false x m x') : f_X6_look x' = some (303, x') := by
  obtain ⟨m', j, h1, h2, h3, h4, A', h5, h6, h7 | h7⟩ := h
  · exact h7.look
  · cases h7.1
theorem BadR.gR (h : BadR t n p A ls ib b x m x') (o i : Nat) : gR x' o i = gR x o i := by
  obtain ⟨m', j, h1, h2, h3, -⟩ := h
  exact h3.1.1.2.1 o i
theorem BadR.pre {p1 A1 j1 : Nat} (h : BadR t n p1 A1 ls ib b x1 m1 x') (hf : BF ls ib x m x1 m1) (hj : j1 ≤ p1 - p) (hp : p ≤ p1) (hn : p1 ≤ n) (hA : A1 ≤ A + (p1 - p)) (hr : ∀ N, f_X11_reads_43 (N + j1) 1 m = f_X11_reads_43 N 1 m1) : BadR t n p A ls ib b x m x' := by
  obtain ⟨m', j, h1, h2, h3, h4, A', h5, h6, h7⟩ := h
  refine ⟨m', j + j1, by omega, fun N => by rw [← Nat.add_assoc, hr]; exact h2 N, hf.tr h3, h4, A', h5, h6, ?_⟩
  rcases h7 with h7 | ⟨rfl, p', h7, h8, h9⟩
  · exact .inl h7
  · exact .inr ⟨rfl, p', h7, by omega, by omega⟩
theorem NXc.bn {c : Nat} (h : NXc t n p c x m) : p ≤ n ∧ n ≤ 1600 := ⟨h.2.1, h.1.2.1⟩
/-- one more step of the law's code, here -/
theorem add_X {A : Nat} {v : Int32} (e : gI x ls 9 = nI A) (hA : A < 1600) : f_X4_addCode ls v x = some (1, sI (sI x (ls + 19) A v) ls 9 (nI (A + 1))) := by
  rw [e_X4_addCode, e, if_pos (show nI A < (1600 : Int32) from nI_lt (b := 1600) hA (by omega)), if_pos (inb_nI hA (by omega)), ix_nI (by omega)]
  dsimp only [ltt]
  rw [show gI (sI x (ls + 19) A v) ls 9 = nI A from (ge_n (by omega)).trans e, nI_1]
abbrev adX (ls A : Nat) (v : Int32) (x : St) : St := sI (sI x (ls + 19) A v) ls 9 (nI (A + 1))
theorem adX_3 (hl : isLand ls) {v : Int32} : S3 x (adX ls A v x) := by
  have := land_o hl
  exact (S3.s (by omega)).tr (S3.s (by omega))
theorem adX_f (hl : isLand ls) {v : Int32} : XFr ls A x (adX ls A v x) := by
  have := land_o hl
  exact ⟨fun o k h1 h2 h3 h4 => (ge_n (by omega)).trans (ge_n (by omega)), fun _ _ => rfl, fun _ _ => rfl, (ge_n (by omega)).trans (ge_n (by omega))⟩
theorem BF.ad (hl : isLand ls) {v : Int32} : BF ls ib x m (adX ls A v x) m := by
  have := land_o hl
  exact ⟨(FL.sx (by omega) (by omega)).tr (FL.sx (by omega) (by omega)), (XFr.rf ls 0 x).tr (adX_f hl) (by omega)⟩
theorem adX_c {v : Int32} : CodeX (adX ls A v x) (ls + 19) A [v] := by
  intro i hi
  have : i = 0 := by simp at hi; omega
  subst this
  show gI (adX ls A v x) (ls + 19) A = v
  rw [ge_n (by omega), ge_s]
theorem BadR.add {A0 : Nat} {v : Int32} (hl : isLand ls) (h : BadR t n p A0 ls ib true x m x') (hA : A0 + 1 ≤ A) (hp : A ≤ p) (hn : n ≤ 1600) : ∃ b y, f_X4_addCode ls v x' = some (bi b, y) ∧ BadR t n p A ls ib b x m y := by
  have hls := land_o hl
  obtain ⟨m', j, h1, h2, h3, h4, A', h5, h6, h7⟩ := h
  by_cases c : A' < 1600
  · refine ⟨true, _, add_X h5 c, m', j, h1, h2, h3.tr (BF.ad hl), h4, A' + 1, ge_s, by omega, ?_⟩
    rcases h7 with h7 | ⟨-, p', h7, h8, h9⟩
    · exact .inl (h7.c (adX_3 hl) (S0.rf _))
    · exact .inr ⟨rfl, p', h7.c (adX_3 hl) (S0.rf _), h8, by omega⟩
  · refine ⟨false, x', ?_, m', j, h1, h2, h3, h4, A', h5, h6, ?_⟩
    · rw [e_X4_addCode, h5, if_neg (show ¬ nI A' < (1600 : Int32) from nI_nlt (b := 1600) (by omega) (by omega))]; rfl
    · rcases h7 with h7 | ⟨-, p', h7, h8, h9⟩
      · exact .inl h7
      · have := h7.2.1
        omega
theorem PS.lk {p' c ph j : Nat} {s : List Tok} {E : List (Int32 × Int32)} {W : List Nat} (h : PS t n ls ib p A B D q bs k pr p' c ph j s E W x m x' m') (hl : isLand ls) : ∃ a e l v x1, f_X6_look x' = some (nI c, x1) ∧ PS t n ls ib p A B D q bs k pr p' c ph j s E W x m x1 m' ∧ TS t n p' c a e l v x1 m' := by
  have hls := land_o hl
  obtain ⟨⟨h1, h2⟩, h3, h4, h5, ⟨h6, h7⟩, h8, h9, h10⟩ := h
  obtain ⟨a, e, l, v, x1, e1, e2, e3, hT⟩ := h2.lk
  exact ⟨a, e, l, v, x1, e1, ⟨⟨h1, hT.nxc⟩, h3.tr (XFr.tt e2) (Nat.le_refl _), h4, h5, ⟨fun i hi => (e2.1 _ _ (by omega) (by omega)).trans (h6 i hi), (e2.1 _ _ (by omega) (by omega)).trans h7⟩, h8, h9, h10⟩, hT⟩
theorem Ex.w {s : List Tok} {ty : Bool} {H H' : Nat} (h : Ex s ty H) (hH : H' ≤ H) : Ex s ty H' := fun ts ht => h ts (by omega)
theorem chk1 (t : Tok) (ts : List Bool) : chk [t] ts = tkT t ts := by
  show (tkT t ts).bind (chk []) = tkT t ts
  cases tkT t ts <;> rfl
theorem Ex.bin {s s' : List Tok} {ty ty' : Bool} {H H' o : Nat} (h : Ex s ty H) (g : Ex s' ty H') (hH : H + 1 ≤ H') (ho : o < 12) (h1 : o < 2 → ty = true ∧ ty' = true) (h2 : 2 ≤ o → o < 5 → ty = false ∧ ty' = true) (h3 : 5 ≤ o → ty = false ∧ ty' = false) : Ex (s ++ s' ++ [(4, o)]) ty' H := by
  intro ts ht
  rw [chk_app, chk_app, h ts ht]
  show ((chk s' (ty :: ts)).bind (chk [(4, o)])) = _
  rw [g (ty :: ts) (by simp; omega)]
  show chk [(4, o)] (ty :: ty :: ts) = _
  rw [chk1]
  show tkT (4, o) (ty :: ty :: ts) = _
  unfold tkT
  dsimp only
  rw [if_neg (by omega), if_neg (by omega), if_neg (by omega), if_neg (by omega)]
  by_cases c1 : o < 2
  · obtain ⟨rfl, rfl⟩ := h1 c1
    rw [if_pos c1, if_pos ⟨rfl, rfl⟩]
  · rw [if_neg c1]
    by_cases c2 : o < 5
    · obtain ⟨rfl, rfl⟩ := h2 (by omega) c2
      rw [if_pos c2, if_pos ⟨rfl, rfl⟩]
    · obtain ⟨rfl, rfl⟩ := h3 (by omega)
      rw [if_neg c2, if_pos ho, if_pos ⟨rfl, rfl⟩]
theorem pW_app (U V : List Nat) : pW (U ++ V) = pW U ++ pW V := by simp [pW]
theorem pW_len (U : List Nat) : (pW U).length = U.length := by simp [pW]
theorem cX1 (t : Tok) : cX [t] = tkX t := by show tkX t ++ [] = tkX t; rw [List.append_nil]
theorem cM1 (t : Tok) : cM [t] = tkM t := by show tkM t ++ [] = tkM t; rw [List.append_nil]
/-- two pieces with what waits between them -/
theorem PS.bin {p1 c1 ph1 bg1 j1 p2 c2 ph2 j2 : Nat} {s1 s2 : List Tok} {E2 : List (Int32 × Int32)} {V W2 : List Nat} {x2 m2 : St} (hl : isLand ls) (h : MI t n ls ib p A B D q bs k pr p1 c1 ph1 bg1 j1 s1 V x m x1 m1) (g : PS t n ls ib p1 (A + (cX s1).length) (B + (cM s1).length) D (q + V.length) bs k pr p2 c2 ph2 j2 s2 E2 W2 x1 m1 x2 m2) (tk : Tok) (hM : tkM tk = pW V) (y : St)
    (hy : (tkX tk = [] ∧ y = x2) ∨ ∃ v, tkX tk = [v] ∧ y = adX ls (A + (cX s1).length + (cX s2).length) v x2) : PS t n ls ib p A B D q bs k pr p2 c2 ph2 (j2 + j1) (s1 ++ s2 ++ [tk]) (cM s1 ++ E2) (W2 ++ V) x m y m2 := by
  have hls := land_o hl
  obtain ⟨⟨h1, h2⟩, h3, h4, h5, ⟨h6, h7⟩, ⟨h8, h8'⟩, ⟨h9, h9'⟩, h10, h11⟩ := h
  obtain ⟨⟨g1, g2⟩, g3, g4, g5, ⟨g6, g7⟩, ⟨g8, g8', g8''⟩, ⟨g9, g9'⟩, g10, g11⟩ := g
  have gf : XFr ls A x x2 := h3.tr g3 (by omega)
  have c1 : CodeX x2 (ls + 19) A (cX s1) := h6.kk hl g3 (Nat.le_refl _)
  have c2 : CodeX x2 (ls + 19) A (cX s1 ++ cX s2) := c1.app g6
  have hlen : (cM s2).length = E2.length + W2.length := by rw [g8'', List.length_append, pW_len]
  have rest : MF ib B D q m m2 ∧ LSt ib (B + (cM s1 ++ E2).length) D (q + (W2 ++ V).length) bs k ph2 0 pr true m2 ∧ (CodeM m2 (1600 * ib + B) (cM s1 ++ E2) ∧ Ops m2 q (W2 ++ V) ∧ cM (s1 ++ s2 ++ [tk]) = (cM s1 ++ E2) ++ pW (W2 ++ V)) ∧ (cM (s1 ++ s2 ++ [tk])).length ≤ p2 - p ∧ j2 + j1 ≤ p2 - p ∧ ∀ N, f_X11_reads_43 (N + (j2 + j1)) 1 m = f_X11_reads_43 N 1 m2 := by
    refine ⟨h4.tr g4 (by omega) (Nat.le_refl _) (by omega), ?_, ⟨(h8.kk g4 (Nat.le_refl _)).app (by rw [Nat.add_assoc]; exact g8), Ops.app g8' (h8'.cc (fun j q1 q2 => g4.1 31 j (by unfold MFx; omega))), ?_⟩, ?_, by omega, fun N => by rw [← Nat.add_assoc, h11, g11]⟩
    · rw [List.length_append, List.length_append, ← Nat.add_assoc, show q + (W2.length + V.length) = q + V.length + W2.length by omega]; exact g5
    · rw [cM_app, cM_app, cM1, hM, g8'', pW_app]; simp only [List.append_assoc]
    · rw [cM_app, cM_app, cM1, hM, List.length_append, List.length_append, pW_len]; omega
  obtain ⟨r1, r2, r3, r4, r5⟩ := rest
  rcases hy with ⟨e1, rfl⟩ | ⟨v, e1, rfl⟩
  · refine ⟨⟨by omega, g2⟩, gf, r1, r2, ⟨?_, ?_⟩, r3, ⟨?_, r4⟩, r5⟩
    · rw [cX_app, cX_app, cX1, e1, List.append_nil]; exact c2
    · rw [cX_app, cX_app, cX1, e1, List.append_nil, List.length_append, ← Nat.add_assoc]; exact g7
    · rw [cX_app, cX_app, cX1, e1, List.append_nil, List.length_append]; omega
  · refine ⟨⟨by omega, g2.cc (adX_3 hl) (S0.rf _)⟩, gf.tr (adX_f hl) (by omega), r1, r2, ⟨?_, ?_⟩, r3, ⟨?_, r4⟩, r5⟩
    · rw [cX_app, cX_app, cX1, e1]
      exact (c2.kk hl (adX_f hl) (by rw [List.length_append]; omega)).app (by rw [List.length_append, ← Nat.add_assoc]; exact adX_c)
    · rw [cX_app, cX_app, cX1, e1, List.length_append, List.length_append]
      show gI (adX _ _ _ _) ls 9 = _
      rw [ge_s]; congr 1; simp only [List.length_singleton]; omega
    · rw [cX_app, cX_app, cX1, e1, List.length_append, List.length_append, List.length_singleton]; omega
/-- behind a sign that joins: the second piece, and the sign's step -/
theorem binS {H H' r r' wc wc' p1 c1 ph1 bg1 j1 o w : Nat} {ty ty' : Bool} {Ψ : Nat → Nat → Prop} {s1 : List Tok} {v : Int32} {g : St → Option (Int32 × St)} {K0 K1 : St → Option (Int32 × St)} {cc : Nat} (hC : Cx n ls ib p A B D q bs k cc x) (h : MI t n ls ib p A B D q bs k pr p1 c1 ph1 bg1 j1 s1 [w] x m x1 m1)
    (hg : Ctr t n ls ib p1 (A + (cX s1).length) (B + (cM s1).length) D (q + 1) bs k pr H' r' wc' ty Ψ (g x1) x1 m1) (hs : Ex s1 ty H) (hH : H + 1 ≤ H') (ho : o < 12) (hv : xo o = v) (hw : mo o = nI w ∧ w < 100 ∧ r ≤ rk w) (hr : r ≤ r') (hwc : wc' + 4 ≤ wc)
    (h1 : o < 2 → ty = true ∧ ty' = true) (h2 : 2 ≤ o → o < 5 → ty = false ∧ ty' = true) (h3 : 5 ≤ o → ty = false ∧ ty' = false) :
    ∃ b y, ((g x1).bind fun q3 => if q3.1 = 0 then K0 q3.2 else (ltt (gR q3.2 5 1) fun g4 => if landB g4 = true then ((f_X4_addCode g4 v q3.2).bind fun q5 => if q5.1 = 0 then K0 q5.2 else K1 q5.2) else none)) = (if b = true then K1 y else K0 y) ∧ (BadR t n p A ls ib b x m y ∨ (b = true ∧ ∃ p' c ph j s E W m', p1 < p' ∧ PS t n ls ib p A B D q bs k pr p' c ph j s E W x m y m' ∧ Ex s ty' H ∧ Ψ ph c ∧ (∀ w ∈ W, r ≤ rk w ∧ w < 100) ∧ 4 * W.length ≤ (p' - p) + wc)) := by
  obtain ⟨hl, hR, hn, hi, hD, hb, hA, hBq, hp, h4, hk⟩ := hC
  have hlB := landB_of hl
  have hls := land_o hl
  obtain ⟨b2, x2, e1, e2⟩ := hg
  have hfl : BF ls ib x m x1 m1 := h.2.1.fl hl h.2.2.1 hi (by have := h.1.2.bn; have := h.1.1; omega)
  have hR1 : gR x1 5 1 = ls := (h.2.1.2.1 5 1).trans hR
  have hle := h.2.2.2.2.2.2.1
  rw [e1]
  dsimp only [Option.bind, ltt]
  rcases e2 with e2 | ⟨rfl, p2, c2, ph2, j2, s2, E2, W2, m2, e2, e3, e4, e5, e6⟩
  · cases b2
    · rw [bF]
      refine ⟨false, x2, by rw [if_neg nFT], .inl (e2.pre hfl h.2.2.2.2.2.2.2.1 (by have := h.1.1; omega) h.1.2.bn.1 (by omega) h.2.2.2.2.2.2.2.2)⟩
    · rw [bT, show gR x2 5 1 = ls from (e2.gR 5 1).trans hR1, if_pos hlB]
      obtain ⟨m', j, d1, d2, d3, d4, A', d5, d6, d7⟩ := e2
      have hj1 := h.2.2.2.2.2.2.2.1
      have hp1 := h.1.1
      have hbn := h.1.2.bn
      have d1' : j + j1 ≤ n - p + 2 := by omega
      have d2' : ∀ N, f_X11_reads_43 (N + (j + j1)) 1 m = some ((), m') := fun N => by rw [← Nat.add_assoc, h.2.2.2.2.2.2.2.2]; exact d2 N
      have d3' := hfl.tr d3
      by_cases c : A' < 1600
      · rw [add_X d5 c]
        dsimp only
        rw [if_neg (by decide)]
        refine ⟨true, _, by rw [if_pos rfl], .inl ⟨m', j + j1, d1', d2', d3'.tr (BF.ad hl), d4, A' + 1, ge_s, by omega, ?_⟩⟩
        rcases d7 with d7 | ⟨-, p', d7, d8, d9⟩
        · exact .inl (d7.c (adX_3 hl) (S0.rf _))
        · exact .inr ⟨rfl, p', d7.c (adX_3 hl) (S0.rf _), by omega, by omega⟩
      · rw [show f_X4_addCode ls v x2 = some (0, x2) from by rw [e_X4_addCode, d5, if_neg (show ¬ nI A' < (1600 : Int32) from nI_nlt (b := 1600) (by omega) (by omega))]]
        dsimp only
        rw [if_pos rfl]
        refine ⟨false, x2, by rw [if_neg nFT], .inl ⟨m', j + j1, d1', d2', d3', d4, A', d5, d6, ?_⟩⟩
        rcases d7 with d7 | ⟨-, p', d7, d8, d9⟩
        · exact .inl d7
        · have := d7.2.1
          omega
  · have hR2 : gR x2 5 1 = ls := (e2.2.1.2.1 5 1).trans hR1
    have hb2 := e2.1.2.bn
    have hl2 := e2.2.2.2.2.2.2.1
    have hp1 := h.1.1
    have hp2 := e2.1.1
    rw [bT, hR2, if_pos hlB, add_X e2.2.2.2.2.1.2 (by omega)]
    dsimp only
    rw [if_neg (by decide)]
    refine ⟨true, _, by rw [if_pos rfl], .inr ⟨rfl, p2, c2, ph2, _, _, _, _, m2, hp2, PS.bin hl h e2 (4, o) ?_ _ (.inr ⟨v, ?_, rfl⟩), Ex.bin hs e3 hH ho h1 h2 h3, e4, ?_, ?_⟩⟩
    · show [(mo o, 0)] = [(nI w, 0)]; rw [hw.1]
    · show [xo o] = [v]; rw [hv]
    · intro w' hw'
      rw [List.mem_append, List.mem_singleton] at hw'
      rcases hw' with hw' | rfl
      · have := e5 w' hw'; omega
      · exact ⟨hw.2.2, hw.2.1⟩
    · rw [List.length_append, List.length_singleton]; omega
end Ct
