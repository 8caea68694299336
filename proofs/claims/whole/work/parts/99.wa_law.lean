/-! ===== a law is read: what stands in both meanwhile ===== -/
def NXc (t : Nat → Nat) (n p c : Nat) (x m : St) : Prop := Tp t n x m ∧ p ≤ n ∧ ∃ a e l v, Lx t n p c a e l v ∧ (XU n p x ∨ XK n c a e l v x) ∧ gI m 0 8 = 0 ∧ MK n c a e l v m
def XFr (ls A : Nat) (x x' : St) : Prop := (∀ o k, o ≠ 3 → o ≠ 5 → ¬ (o = ls ∧ k = 9) → ¬ (o = ls + 19 ∧ A ≤ k) → gI x' o k = gI x o k) ∧ (∀ o k, gR x' o k = gR x o k) ∧ (∀ o k, gL x' o k = gL x o k) ∧ gI x' 3 2 = gI x 3 2
def MFx (ib B D q o k : Nat) : Prop := (o = 0 ∧ (3 ≤ k ∧ k ≤ 9 ∨ k = 37 ∨ k = 44 ∨ k = 45 ∨ k = 47 ∨ k = 48)) ∨ ((o = 24 ∨ o = 25) ∧ 1600 * ib + B ≤ k ∧ k < 1600 * ib + 1600) ∨ (26 ≤ o ∧ o ≤ 30 ∧ D ≤ k) ∨ (o = 31 ∧ q ≤ k)
def MF (ib B D q : Nat) (m m' : St) : Prop := (∀ o k, ¬ MFx ib B D q o k → gI m' o k = gI m o k) ∧ ∀ o k, ¬ (o = 0 ∧ k = 7) → gL m' o k = gL m o k
def LSt (ib B D q bs k ph bg : Nat) (pr : Int32) (ob : Bool) (m : St) : Prop := gI m 0 38 = nI ib ∧ gI m 0 37 = nI B ∧ gI m 0 44 = nI (D + 1) ∧ gI m 0 45 = nI D ∧ gI m 0 47 = nI q ∧ gI m 0 48 = bi ob ∧ gI m 26 D = nI k ∧ gI m 27 D = nI ph ∧ gI m 28 D = nI bg ∧ gI m 29 D = pr ∧ gI m 30 D = nI bs
def BF (ls ib : Nat) (x m x' m' : St) : Prop := FL ls ib x m x' m' ∧ XFr ls 0 x x'
section LawF
variable {t : Nat → Nat} {n p c ls ib A B D q bs k ph bg : Nat} {pr : Int32} {ob : Bool} {x m x' m' x'' m'' : St}
theorem NXc.nx (h : NXc t n p c x m) : NX t n p x m := by
  obtain ⟨h1, h2, a, e, l, v, g⟩ := h
  exact ⟨h1, h2, .inr ⟨c, a, e, l, v, g⟩⟩
theorem NXc.e8 (h : NXc t n p c x m) : gI m 0 8 = 0 := by
  obtain ⟨h1, h2, a, e, l, v, g1, g2, g3, g4⟩ := h
  exact g3
theorem NXc.of (h : NX t n p x m) : (∃ c, NXc t n p c x m) ∨ ¬ gI m 0 8 = 0 := by
  obtain ⟨h1, h2, ⟨q, g1, g2, g3, g4⟩ | ⟨c, a, e, l, v, g⟩⟩ := h
  · right; rw [g3]; decide
  · exact .inl ⟨c, h1, h2, a, e, l, v, g⟩
theorem NXc.lk (h : NXc t n p c x m) : ∃ a e l v x1, f_X6_look x = some (nI c, x1) ∧ TX x x1 ∧ gI x1 5 2 = gI x 5 2 ∧ TS t n p c a e l v x1 m := by
  obtain ⟨h1, h2, a, e, l, v, g1, g2, g3, g4⟩ := h
  rcases g2 with g2 | g2
  · obtain ⟨x1, e1, e2, e3, e4⟩ := look_ok h1.2.2.1 h1.1 h1.2.1 g2 g1
    exact ⟨a, e, l, v, x1, e1, e2, e3, h1.t e2 (TM.rf _) (lookJ h1.2.2.2.2.1 e1) h1.2.2.2.2.2, h2, g1, e4, g3, g4⟩
  · exact ⟨a, e, l, v, x, g2.look, TX.rf _, rfl, h1, h2, g1, g2, g3, g4⟩
theorem NXc.cc (h : NXc t n p c x m) (hx : S3 x x') (hm : S0 m m') : NXc t n p c x' m' := by
  obtain ⟨h1, h2, a, e, l, v, g1, g2, g3, g4⟩ := h
  exact ⟨h1.c hx hm, h2, a, e, l, v, g1, g2.imp (fun q => q.c hx) (fun q => q.c hx), (hm.2.1 8 (by omega) (by omega)).trans g3, g4.c hm⟩
theorem TS.nxc {a e v : Nat} {l : List Nat} (h : TS t n p c a e l v x m) : NXc t n p c x m := ⟨h.1, h.2.1, a, e, l, v, h.2.2.1, .inr h.2.2.2.1, h.2.2.2.2.1, h.2.2.2.2.2⟩
theorem XFr.rf (ls A : Nat) (x : St) : XFr ls A x x := ⟨fun _ _ _ _ _ _ => rfl, fun _ _ => rfl, fun _ _ => rfl, rfl⟩
theorem XFr.tr {A' : Nat} (h : XFr ls A x x') (g : XFr ls A' x' x'') (hA : A ≤ A') : XFr ls A x x'' := ⟨fun o k e1 e2 e3 e4 => (g.1 o k e1 e2 e3 (by omega)).trans (h.1 o k e1 e2 e3 e4), fun o k => (g.2.1 o k).trans (h.2.1 o k), fun o k => (g.2.2.1 o k).trans (h.2.2.1 o k), g.2.2.2.trans h.2.2.2⟩
theorem XFr.tt (h : TX x x') : XFr ls A x x' := ⟨fun o k e1 e2 _ _ => h.1 o k e1 e2, h.2.1, h.2.2.1, h.2.2.2⟩
theorem MF.rf (ib B D q : Nat) (m : St) : MF ib B D q m m := ⟨fun _ _ _ => rfl, fun _ _ _ => rfl⟩
theorem MF.tr {B' D' q' : Nat} (h : MF ib B D q m m') (g : MF ib B' D' q' m' m'') (hB : B ≤ B') (hD : D ≤ D') (hq : q ≤ q') : MF ib B D q m m'' :=
  ⟨fun o k e => (g.1 o k (fun z => e (by unfold MFx at z ⊢; omega))).trans (h.1 o k e), fun o k e => (g.2 o k e).trans (h.2 o k e)⟩
theorem MF.w {B' D' q' : Nat} (g : MF ib B' D' q' m m') (hB : B ≤ B') (hD : D ≤ D') (hq : q ≤ q') : MF ib B D q m m' := (MF.rf _ _ _ _ _).tr g hB hD hq
theorem MF.s {o j : Nat} {v : Int32} (h : MFx ib B D q o j) : MF ib B D q m (sI m o j v) := ⟨fun a b e => ge_n (fun z => e (by rw [z.1, z.2]; exact h)), fun _ _ _ => rfl⟩
theorem MF.tt (h : TM m m') : MF ib B D q m m' := ⟨fun o k e => h.1 o k (fun z => e (by unfold MFx; omega)), h.2⟩
theorem LSt.tt (h : LSt ib B D q bs k ph bg pr ob m) (g : TM m m') : LSt ib B D q bs k ph bg pr ob m' := by
  have e : ∀ j, 9 < j → gI m' 0 j = gI m 0 j := fun j hj => g.1 0 j (by omega)
  have e' : ∀ o j, o ≠ 0 → gI m' o j = gI m o j := fun o j ho => g.1 o j (by omega)
  unfold LSt
  rw [e _ (by omega), e _ (by omega), e _ (by omega), e _ (by omega), e _ (by omega), e _ (by omega), e' _ _ (by omega), e' _ _ (by omega), e' _ _ (by omega), e' _ _ (by omega), e' _ _ (by omega)]
  exact h
theorem XFr.fl0 (hl : isLand ls) (h : XFr ls A x x') (g : MF ib B D q m m') (hi : ib < 2) (hB : B ≤ 1600) : FL ls ib x m x' m' := by
  have hls := land_o hl
  refine ⟨⟨fun o k e1 e2 e3 => h.1 o k e1 e2 (by omega) (by omega), h.2.1, h.2.2.1, h.2.2.2⟩, fun o k e1 e2 e3 => g.1 o k (fun z => ?_), fun o k e _ => g.2 o k e⟩
  rcases z with ⟨rfl, z⟩ | ⟨z, z1, z2⟩ | ⟨z1, z2, -⟩ | ⟨z1, -⟩
  · simp [mS] at e1; omega
  · have : wd o = 1600 := by rcases z with rfl | rfl <;> rfl
    rw [this] at e3; omega
  · simp [mS] at e1; omega
  · subst z1; simp [mS] at e1
theorem BF.tr (h : BF ls ib x m x' m') (g : BF ls ib x' m' x'' m'') : BF ls ib x m x'' m'' := ⟨h.1.tr g.1, h.2.tr g.2 (Nat.le_refl _)⟩
theorem BF.tt (hx : TX x x') (hm : TM m m') : BF ls ib x m x' m' := ⟨FL.t hx hm, XFr.tt hx⟩
theorem XFr.fl (hl : isLand ls) (h : XFr ls A x x') (g : MF ib B D q m m') (hi : ib < 2) (hB : B ≤ 1600) : BF ls ib x m x' m' := ⟨h.fl0 hl g hi hB, (XFr.rf ls 0 x).tr h (by omega)⟩
end LawF
-- operations that wait
def Ops (m : St) (q : Nat) : List Nat → Prop
  | [] => True
  | w :: W => gI m 31 (q + W.length) = nI w ∧ Ops m q W
def pW (W : List Nat) : List (Int32 × Int32) := W.map fun w => (nI w, 0)
def rk (w : Nat) : Nat := if w = 21 then 1 else if w = 20 then 2 else if w = 22 then 3 else if w = 17 ∨ w = 18 ∨ w = 19 then 4 else if w = 10 ∨ w = 11 then 5 else 6
def TopR (r bs q : Nat) (m : St) : Prop := q = bs ∨ (bs < q ∧ ∃ w, w < 100 ∧ gI m 31 (q - 1) = nI w ∧ rk w < r)
theorem rank_M {w : Nat} (hw : w < 100) (m : St) : f_X11_rank (nI w) m = some (nI (rk w), m) := by
  have key : ∀ w, w < 100 → (if nI w = (21 : Int32) then ((1 : Int32)) else (if nI w = (20 : Int32) then ((2 : Int32)) else (if nI w = (22 : Int32) then ((3 : Int32)) else (if nI w = (17 : Int32) then ((4 : Int32)) else (if nI w = (18 : Int32) then ((4 : Int32)) else (if nI w = (19 : Int32) then ((4 : Int32)) else (if nI w = (10 : Int32) then ((5 : Int32)) else (if nI w = (11 : Int32) then ((5 : Int32)) else ((6 : Int32)))))))))) = nI (rk w) := by decide +kernel
  rw [e_X11_rank, ← key w hw]
  repeat' split
  all_goals rfl
section Jn
variable {t : Nat → Nat} {n p c ls ib A B D q bs k ph bg r : Nat} {pr : Int32} {ob : Bool} {x m x' m' x'' m'' : St}
theorem Ops.cc {W : List Nat} (h : Ops m q W) (g : ∀ j, q ≤ j → j < q + W.length → gI m' 31 j = gI m 31 j) : Ops m' q W := by
  induction W with
  | nil => trivial
  | cons w W ih => exact ⟨(g _ (by omega) (by simp)).trans h.1, ih h.2 (fun j h1 h2 => g j h1 (by simp; omega))⟩
theorem Ops.app {U V : List Nat} (h : Ops m (q + V.length) U) (g : Ops m q V) : Ops m q (U ++ V) := by
  induction U with
  | nil => exact g
  | cons w U ih => exact ⟨by show gI m 31 (q + (U ++ V).length) = nI w; rw [List.length_append, show q + (U.length + V.length) = q + V.length + U.length by omega]; exact h.1, ih h.2⟩
theorem TopR.cc (h : TopR r bs q m) (g : MF ib B D q m m') (hb : bs ≤ q) : TopR r bs q m' := by
  rcases h with h | ⟨h1, w, h2, h3, h4⟩
  · exact .inl h
  · exact .inr ⟨h1, w, h2, (g.1 31 (q - 1) (by unfold MFx; omega)).trans h3, h4⟩
theorem TopR.le {r' : Nat} (h : TopR r bs q m) (hr : r ≤ r') : TopR r' bs q m := by
  rcases h with h | ⟨h1, w, h2, h3, h4⟩
  · exact .inl h
  · exact .inr ⟨h1, w, h2, h3, by omega⟩
theorem TopR.one {w : Nat} (hw : w < 100) (h : gI m 31 q = nI w) (hr : rk w < r) (hb : bs ≤ q) : TopR r bs (q + 1) m := .inr ⟨by omega, w, hw, h, hr⟩
theorem CodeM.app {l l' : List (Int32 × Int32)} {a : Nat} (h : CodeM m a l) (g : CodeM m (a + l.length) l') : CodeM m a (l ++ l') := by
  intro i hi
  rw [List.length_append] at hi
  by_cases c : i < l.length
  · rw [List.getElem_append_left c]; exact h i c
  · rw [List.getElem_append_right (by omega)]
    have := g (i - l.length) (by omega)
    rw [show a + l.length + (i - l.length) = a + i by omega] at this
    exact this
theorem CodeX.app {l l' : List Int32} {o a : Nat} (h : CodeX m o a l) (g : CodeX m o (a + l.length) l') : CodeX m o a (l ++ l') := by
  intro i hi
  rw [List.length_append] at hi
  by_cases c : i < l.length
  · rw [List.getElem_append_left c]; exact h i c
  · rw [List.getElem_append_right (by omega)]
    have := g (i - l.length) (by omega)
    rw [show a + l.length + (i - l.length) = a + i by omega] at this
    exact this
theorem CodeM.kk {l : List (Int32 × Int32)} {B' : Nat} (h : CodeM m (1600 * ib + B) l) (g : MF ib B' D q m m') (hB : B + l.length ≤ B') : CodeM m' (1600 * ib + B) l := by
  intro i hi
  rw [g.1 24 _ (by unfold MFx; omega), g.1 25 _ (by unfold MFx; omega)]
  exact h i hi
theorem CodeX.kk {l : List Int32} {A' : Nat} (hl : isLand ls) (h : CodeX x (ls + 19) A l) (g : XFr ls A' x x') (hA : A + l.length ≤ A') : CodeX x' (ls + 19) A l := by
  intro i hi
  have := land_o hl
  rw [g.1 _ _ (by omega) (by omega) (by omega) (by omega)]
  exact h i hi
theorem add_M {s v : Int32} (h38 : gI m 0 38 = nI ib) (h37 : gI m 0 37 = nI B) (hi : ib < 2) (hB : B < 1600) : f_X11_add s v m = some ((), sI (sI (sI m 24 (1600 * ib + B) s) 25 (1600 * ib + B) v) 0 37 (nI (B + 1))) := by
  have e1 : (1600 : Int32) * nI ib + nI B = nI (1600 * ib + B) := by rw [show (1600 : Int32) = nI 1600 from rfl, pk_mul, nI_add]
  rw [e_X11_add, h38, h37, e1, if_pos (inb_nI (by omega) (by omega)), ix_nI (by omega)]
  dsimp only [ltt]
  rw [show gI (sI m 24 (1600 * ib + B) s) 0 38 = nI ib from (ge_n (by omega)).trans h38, show gI (sI m 24 (1600 * ib + B) s) 0 37 = nI B from (ge_n (by omega)).trans h37, e1, if_pos (inb_nI (by omega) (by omega)), ix_nI (by omega), show gI (sI (sI m 24 (1600 * ib + B) s) 25 (1600 * ib + B) v) 0 37 = nI B from (ge_n (by omega)).trans ((ge_n (by omega)).trans h37), nI_1]
abbrev adM (ib B : Nat) (s v : Int32) (m : St) : St := sI (sI (sI m 24 (1600 * ib + B) s) 25 (1600 * ib + B) v) 0 37 (nI (B + 1))
theorem adM_f {s v : Int32} (hi : ib < 2) (hB : B < 1600) : MF ib B D q m (adM ib B s v m) := ((MF.s (by unfold MFx; omega)).tr (MF.s (by unfold MFx; omega)) (Nat.le_refl _) (Nat.le_refl _) (Nat.le_refl _)).tr (MF.s (by unfold MFx; omega)) (Nat.le_refl _) (Nat.le_refl _) (Nat.le_refl _)
theorem adM_0 {s v : Int32} : S0 m (adM ib B s v m) := ((S0.s (by omega)).tr (S0.s (by omega))).tr (S0.s (by omega))
theorem adM_g {s v : Int32} {o j : Nat} (h : o ≠ 24 ∧ o ≠ 25 ∧ ¬ (o = 0 ∧ j = 37)) : gI (adM ib B s v m) o j = gI m o j := (ge_n (by omega)).trans ((ge_n (by omega)).trans (ge_n (by omega)))
theorem adM_c {s v : Int32} : CodeM (adM ib B s v m) (1600 * ib + B) [(s, v)] := by
  intro i hi
  have : i = 0 := by simp at hi; omega
  subst this
  refine ⟨?_, fun _ => ?_⟩
  · show gI (adM ib B s v m) 24 (1600 * ib + B) = s
    rw [ge_n (by omega), ge_n (by omega), ge_s]
  · show gI (adM ib B s v m) 25 (1600 * ib + B) = v
    rw [ge_n (by omega), ge_s]
theorem LSt.ad {s v : Int32} (h : LSt ib B D q bs k ph bg pr ob m) : LSt ib (B + 1) D q bs k ph bg pr ob (adM ib B s v m) := by
  obtain ⟨h1, h2, h3, h4, h5, h6, h7, h8, h9, h10, h11⟩ := h
  exact ⟨(adM_g (by omega)).trans h1, ge_s, (adM_g (by omega)).trans h3, (adM_g (by omega)).trans h4, (adM_g (by omega)).trans h5, (adM_g (by omega)).trans h6, (adM_g (by omega)).trans h7, (adM_g (by omega)).trans h8, (adM_g (by omega)).trans h9, (adM_g (by omega)).trans h10, (adM_g (by omega)).trans h11⟩
/-- what waits and binds as strongly is put down -/
theorem joins_W (hi : ib < 2) (hD : D < 20) (hb : bs ≤ q) (hr : r < 100) : ∀ (W : List Nat) (m : St) (B N : Nat), LSt ib B D (q + W.length) bs k ph bg pr ob m → Ops m q W → (∀ w ∈ W, r ≤ rk w ∧ w < 100) → TopR r bs q m → q + W.length < 500 → B + W.length ≤ 1600 → W.length < N → ∃ m', f_X11_joins_0 N (nI r) m = some ((), m') ∧ LSt ib (B + W.length) D q bs k ph bg pr ob m' ∧ MF ib B D q m m' ∧ S0 m m' ∧ CodeM m' (1600 * ib + B) (pW W) := by
  intro W
  induction W with
  | nil =>
    intro m B N h1 h2 h3 h4 h5 h6 h7
    obtain ⟨N, rfl⟩ : ∃ k, N = k + 1 := ⟨N - 1, by omega⟩
    have h1' : LSt ib B D q bs k ph bg pr ob m := h1
    refine ⟨m, ?_, h1', MF.rf _ _ _ _ _, S0.rf _, fun i hi => absurd hi (Nat.not_lt_zero _)⟩
    obtain ⟨g38, g37, g44, g45, g47, g48, g26, g27, g28, g29, g30⟩ := h1'
    rw [e_X11_joins_0, g44, nI_pred, if_pos (inb_nI hD (by omega)), ix_nI (by omega), g47, g30]
    rcases h4 with rfl | ⟨t1, w, t2, t3, t4⟩
    · rw [if_pos (nI_le (Nat.le_refl _) (by omega))]
    · have hq : q + 0 < 500 := h5
      obtain ⟨q', rfl⟩ : ∃ q', q = q' + 1 := ⟨q - 1, by omega⟩
      rw [if_neg (nI_ge (by omega) (by omega)), nI_pred, if_pos (inb_nI (by omega) (by omega)), ix_nI (by omega), show gI m 31 q' = nI w from t3, rank_M t2]
      dsimp only [Option.bind]
      rw [if_pos (nI_lt t4 (by omega))]
  | cons w W ih =>
    intro m B N h1 h2 h3 h4 h5 h6 h7
    obtain ⟨N, rfl⟩ : ∃ k, N = k + 1 := ⟨N - 1, by omega⟩
    obtain ⟨g38, g37, g44, g45, g47, g48, g26, g27, g28, g29, g30⟩ := id h1
    simp only [List.length_cons] at h5 h6 h7 g47
    obtain ⟨hw1, hw2⟩ := h3 w (List.mem_cons_self ..)
    have hrk : rk w < 100 := by unfold rk; (repeat' split) <;> omega
    have hms : LSt ib (B + 1) D (q + W.length) bs k ph bg pr ob (adM ib B (nI w) 0 (sI m 0 47 (nI (q + W.length)))) := by
      refine LSt.ad ?_
      refine ⟨(ge_n (by omega)).trans g38, (ge_n (by omega)).trans g37, (ge_n (by omega)).trans g44, (ge_n (by omega)).trans g45, ge_s, (ge_n (by omega)).trans g48, (ge_n (by omega)).trans g26, (ge_n (by omega)).trans g27, (ge_n (by omega)).trans g28, (ge_n (by omega)).trans g29, (ge_n (by omega)).trans g30⟩
    have f1 : MF ib B D q m (adM ib B (nI w) 0 (sI m 0 47 (nI (q + W.length)))) := (MF.s (by unfold MFx; omega)).tr (adM_f hi (by omega)) (Nat.le_refl _) (Nat.le_refl _) (Nat.le_refl _)
    obtain ⟨m', e1, e2, e3, e4, e5⟩ := ih _ (B + 1) N hms (h2.2.cc (fun j _ _ => (adM_g (by omega)).trans (ge_n (by omega)))) (fun w' hw' => h3 w' (List.mem_cons_of_mem _ hw')) (h4.cc f1 hb) (by omega) (by omega) (by omega)
    refine ⟨m', ?_, ?_, f1.tr e3 (by omega) (Nat.le_refl _) (Nat.le_refl _), ((S0.s (by omega)).tr adM_0).tr e4, ?_⟩
    · rw [e_X11_joins_0, g44, nI_pred, if_pos (inb_nI hD (by omega)), ix_nI (by omega), g47, g30, if_neg (nI_ge (by omega) (by omega)), show q + (W.length + 1) = q + W.length + 1 by omega, nI_pred, if_pos (inb_nI (by omega) (by omega)), ix_nI (by omega), h2.1, rank_M hw2]
      dsimp only [Option.bind, ltt]
      rw [if_neg (nI_nlt hw1 (by omega)), g47, show q + (W.length + 1) = q + W.length + 1 by omega, nI_pred, show gI (sI m 0 47 (nI (q + W.length))) 0 47 = nI (q + W.length) from ge_s, if_pos (inb_nI (by omega) (by omega)), ix_nI (by omega), show gI (sI m 0 47 (nI (q + W.length))) 31 (q + W.length) = nI w from (ge_n (by omega)).trans h2.1, add_M ((ge_n (by omega)).trans g38) ((ge_n (by omega)).trans g37) hi (by omega)]
      exact e1
    · rw [List.length_cons, show B + (W.length + 1) = B + 1 + W.length by omega]; exact e2
    · show CodeM m' (1600 * ib + B) ((nI w, 0) :: pW W)
      have e5' : CodeM m' (1600 * ib + B + 1) (pW W) := e5
      exact CodeM.app (l := [(nI w, 0)]) (adM_c.kk e3 (Nat.le_refl _)) e5'
end Jn
