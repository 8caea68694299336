/-! ===== statements: steps one behind the other ===== -/
def DC (ls ib : Nat) (G : St → Option (Unit × St)) : Prop := ∀ x σ, ¬ gI σ 0 8 ≤ 0 → ∃ σ', G σ = some ((), σ') ∧ S0 σ σ' ∧ FL ls ib x σ x σ'
def AL (t : Nat → Nat) (n p0 p : Nat) (Xp Mp x m : St) : Prop := p0 < p ∧ NX t n p x m ∧ TX Xp x ∧ TM Mp m
def Gl (t : Nat → Nat) (n p0 ls ib : Nat) (x0 m0 : St) (FX : St → Option (Int32 × St)) (FM : St → Option (Unit × St)) (x m : St) : Prop := ∃ b x' m', FX x = some (bi b, x') ∧ FM m = some ((), m') ∧ StOK t n p0 ls ib b x0 m0 x' m'
section Sp
variable {t : Nat → Nat} {n p0 p ls ib : Nat} {x0 m0 Xp Mp x m : St}
theorem DC.end : DC ls ib (fun σ => some ((), σ)) := fun x σ _ => ⟨σ, rfl, S0.rf _, FL.rf _ _ _ _⟩
theorem DC.must {G : St → Option (Unit × St)} (a : Int64) (h : DC ls ib G) : DC ls ib (fun σ => (f_X11_must_ a σ).bind fun q => G q.2) := by
  intro x σ hd
  obtain ⟨σ', e1, e2⟩ := h x σ hd
  exact ⟨σ', by show (f_X11_must_ a σ).bind _ = _; rw [must_f hd]; exact e1, e2⟩
theorem DC.si {G : St → Option (Unit × St)} {o j : Nat} {v : Int32} (h : DC ls ib G) (ho : o ≠ 0 ∧ o ≠ 1) (hw : wd o * ib ≤ j ∧ j < wd o * ib + wd o) : DC ls ib (fun σ => G (sI σ o j v)) := by
  intro x σ hd
  obtain ⟨σ', e1, e2, e3⟩ := h x (sI σ o j v) (by rw [ge_n (by omega)]; exact hd)
  exact ⟨σ', e1, (S0.s (by omega)).tr e2, (FL.sm (.inr hw)).tr e3⟩
theorem DC.num {G : Int32 → St → Option (Unit × St)} (lo hi : Int32) (h : DC ls ib (G 0)) : DC ls ib (fun σ => (f_X11_number lo hi σ).bind fun q => G q.1 q.2) := by
  intro x σ hd
  obtain ⟨σ', e1, e2⟩ := h x σ hd
  exact ⟨σ', by show (f_X11_number lo hi σ).bind _ = _; rw [num_f hd]; exact e1, e2⟩
theorem DC.if0 {G : St → Option (Unit × St)} : DC ls ib (fun σ => if gI σ 0 8 = 0 then G σ else some ((), σ)) := by
  intro x σ hd
  refine ⟨σ, ?_, S0.rf _, FL.rf _ _ _ _⟩
  show (if gI σ 0 8 = 0 then G σ else some ((), σ)) = _
  rw [if_neg (fun z => hd (by rw [z]; decide))]
theorem deadG {FX : St → Option (Int32 × St)} {FM : St → Option (Unit × St)} {x' : St} (hFL : FL ls ib x0 m0 x' m) (hb : Bd x' m) (hx : FX x = some (0, x')) (h : DC ls ib FM) : Gl t n p0 ls ib x0 m0 FX FM x m := by
  obtain ⟨m', e1, e2, e3⟩ := h x' m hb.f.2.1
  exact ⟨false, x', m', hx, e1, hFL.tr e3, .inr ⟨rfl, hb.c (S3.rf _) e2⟩⟩
theorem tokStep {FX : St → Option (Int32 × St)} {FM : St → Option (Unit × St)} {i : Nat} (hi : i < 23) (hA : AL t n p0 p Xp Mp x m) (hFL : FL ls ib x0 m0 Xp Mp) (hdc : DC ls ib FM) (hk : ∀ p1 x1 m1, AL t n p0 p1 Xp Mp x1 m1 → Gl t n p0 ls ib x0 m0 FX FM x1 m1) : Gl t n p0 ls ib x0 m0 (fun x => (f_X5_token (nI (400 + i)) x).bind fun q => if q.1 = 0 then some ((0 : Int32), q.2) else FX q.2) (fun m => (f_X11_must_ (wl i) m).bind fun q => FM q.2) x m := by
  obtain ⟨h1, h2, h3, h4⟩ := hA
  obtain ⟨b, x1, m1, e1, e2, e3, e4, e5, e6, e7⟩ := tokW h2 hi
  rcases e7 with ⟨rfl, p1, e8, e9⟩ | ⟨rfl, e8⟩
  · obtain ⟨b, x', m', g1, g2, g3⟩ := hk p1 x1 m1 ⟨by omega, e9, h3.tr e4, h4.tr e5⟩
    exact ⟨b, x', m', by show (f_X5_token _ x).bind _ = _; rw [e1]; exact g1, by show (f_X11_must_ _ m).bind _ = _; rw [e2]; exact g2, g3⟩
  · obtain ⟨m', g1, g2, g3⟩ := hdc x1 m1 e8.f.2.1
    exact ⟨false, x1, m', by show (f_X5_token _ x).bind _ = _; rw [e1]; rfl, by show (f_X11_must_ _ m).bind _ = _; rw [e2]; exact g1, (hFL.tr (FL.t (h3.tr e4) (h4.tr e5))).tr g3, .inr ⟨rfl, e8.c (S3.rf _) g2⟩⟩
theorem numStep {FX : St → Option (Int32 × St)} {GM : Int32 → St → Option (Unit × St)} {lo hi : Nat} (hlo : lo < 100000) (hhi : hi < 100000) (hA : AL t n p0 p Xp Mp x m) (hFL : FL ls ib x0 m0 Xp Mp) (hdc : ∀ w, DC ls ib (GM w)) (hk : ∀ v p1 x1 m1, lo ≤ v → v ≤ hi → gI x1 5 2 = nI v → AL t n p0 p1 Xp Mp x1 m1 → Gl t n p0 ls ib x0 m0 FX (GM (nI v)) x1 m1) : Gl t n p0 ls ib x0 m0 (fun x => (f_X5_number (nI lo) (nI hi) x).bind fun q => if q.1 = 0 then some ((0 : Int32), q.2) else FX q.2) (fun m => (f_X11_number (nI lo) (nI hi) m).bind fun q => GM q.1 q.2) x m := by
  obtain ⟨h1, h2, h3, h4⟩ := hA
  obtain ⟨b, x1, m1, w, e1, e2, ⟨e4, e5, e6, e7⟩, e3⟩ := numB h2 hlo hhi
  rcases e7 with ⟨rfl, p1, e8, e9⟩ | ⟨rfl, e8⟩
  · obtain ⟨v, v1, v2, v3, v4⟩ := e3 rfl
    obtain ⟨b, x', m', g1, g2, g3⟩ := hk v p1 x1 m1 v1 v2 v3 ⟨by omega, e9, h3.tr e4, h4.tr e5⟩
    rw [v4] at e2
    exact ⟨b, x', m', by show (f_X5_number _ _ x).bind _ = _; rw [e1]; exact g1, by show (f_X11_number _ _ m).bind _ = _; rw [e2]; exact g2, g3⟩
  · obtain ⟨m', g1, g2, g3⟩ := hdc w x1 m1 e8.f.2.1
    exact ⟨false, x1, m', by show (f_X5_number _ _ x).bind _ = _; rw [e1]; rfl, by show (f_X11_number _ _ m).bind _ = _; rw [e2]; exact g1, (hFL.tr (FL.t (h3.tr e4) (h4.tr e5))).tr g3, .inr ⟨rfl, e8.c (S3.rf _) g2⟩⟩
theorem keep_X {r s w cl : Nat} (e4 : gI x r 4 = nI (s + 1)) (e1 : gI x r 1 = nI w) (hcl : cl < w) (hw : w < 10) (hs : s < 100) (hl : s * w + cl < lnX (r + 2)) (hln : lnX (r + 2) < 1000) : f_X5_keep r (nI cl) x = some (1, sI x (r + 2) (s * w + cl) (gI x 5 2)) := by
  rw [e_X5_keep, e4, nI_pred, e_X8_put, holds_X e4 (by omega), inb_nI (by omega) (by omega)]
  dsimp only [Option.bind]
  rw [bT, if_neg (nI_pos (by omega)), e1, if_neg (nI_ge hcl (by omega)), pk_mul, nI_add, if_pos (inb_nI hl (by omega)), ix_nI (by omega)]
  rfl
theorem begB {c a e v r s lim : Nat} {l : List Nat} (hT : TS t n p c a e l v x m) (hc : c ≠ 302) (e4 : gI x r 4 = nI s) (e0 : gI x r 0 = nI lim) (hs : s ≤ lim) (hl : lim < 100) :
    (s = lim ∧ ∃ x' m', f_X5_begin r x = some (0, x') ∧ f_X11_counts 1 m = some (0, m') ∧ TX x x' ∧ TM m m' ∧ Bd x' m') ∨ (s < lim ∧ ∃ m', f_X5_begin r x = some (1, sI x 3 7 0) ∧ f_X11_counts 0 m = some (bi (decide (gI m' 0 8 = 0)), m') ∧ TX x (sI x 3 7 0) ∧ TM m m' ∧ ∃ p', p < p' ∧ NX t n p' (sI x 3 7 0) m') := by
  by_cases h : s < lim
  · obtain ⟨m', a1, a2, a3, a4, a5⟩ := cntB hT hc
    refine .inr ⟨h, m', ?_, a2, a3, a4, a5⟩
    rw [e_X5_begin, e_X8_isFull, e4, e0, if_pos (nI_lt h (by omega))]
    dsimp only [Option.bind]
    rw [if_pos rfl, a1]
  · obtain ⟨x', m', a1, a2, a3, a4, a5⟩ := fullB hT
    refine .inl ⟨by omega, x', m', ?_, a2, a3, a4, a5⟩
    rw [e_X5_begin, e_X8_isFull, e4, e0, if_neg (nI_nlt (by omega) (by omega))]
    dsimp only [Option.bind]
    rw [if_neg (by decide), a1]
    rfl
/-- a new name, then the rest -/
theorem nameStep {FX : St → Option (Int32 × St)} {GM : Int64 → St → Option (Unit × St)} {L : LD} {A B r s lim : Nat} (hP : RP ls ib L x m A B) (h2 : NX t n p x m) (hp : p0 < p) (h3 : TX x0 x) (h4 : TM m0 m) (e4 : gI x r 4 = nI s) (e0 : gI x r 0 = nI lim) (hs : s < lim) (hl : lim ≤ lnX (r + 1)) (hb : lnX (r + 1) ≤ 100) (hr : ls ≤ r ∧ r + 1 < ls + 20) (hdc : ∀ w, DC ls ib (GM w)) (hm0 : f_X11_counts 0 m0 = some (bi (decide (gI m 0 8 = 0)), m))
    (hk : ∀ l p1 x1 m1, NameR (nI (pk5 l)) (lN (pk8 l)) l → AL t n p0 p1 (sI (sI x (r + 1) s (nI (pk5 l))) r 4 (nI (s + 1))) m x1 m1 → Gl t n p0 ls ib x0 m0 FX (GM (lN (pk8 l))) x1 m1) :
    ∃ b x' m', ((f_X5_newName r x).bind fun q => if q.1 = 0 then some ((0 : Int32), q.2) else FX q.2) = some (bi b, x') ∧ ((f_X11_counts 0 m0).bind fun q1 => if q1.1 = 0 then some ((), q1.2) else (f_X11_fresh q1.2).bind fun q3 => GM q3.1 q3.2) = some ((), m') ∧ StOK t n p0 ls ib b x0 m0 x' m' := by
  have hls := land_o hP.1.1
  obtain ⟨b, x1, m1, w, e1, e2, e3, e5, e6⟩ := newB h2 hP e4 e0 hs hl hb (by omega)
  rw [hm0, e1]
  dsimp only [Option.bind]
  by_cases h0 : gI m 0 8 = 0
  · rw [decide_eq_true h0, bT, e2]
    dsimp only
    rcases e6 with ⟨rfl, l, p1, z1, z2, z3, z4⟩ | ⟨rfl, z1, z2⟩
    · rw [bT]
      have hw : w = lN (pk8 l) := z1.2.2.2.2
      rw [hw]
      exact hk l p1 x1 m1 ⟨z1.1, z1.2.1, z1.2.2.1, rfl, rfl⟩ ⟨by omega, z4, z2, e3⟩
    · rw [bF]
      obtain ⟨m', g1, g2, g3⟩ := hdc w x1 m1 z2.f.2.1
      exact ⟨false, x1, m', rfl, g1, ((FL.t h3 h4).tr (FL.t z1 e3)).tr g3, .inr ⟨rfl, z2.c (S3.rf _) g2⟩⟩
  · obtain ⟨rfl, rfl⟩ := e5 h0
    rcases e6 with ⟨z, -⟩ | ⟨-, z1, z2⟩
    · cases z
    · rw [decide_eq_false h0, bF, bF]
      exact ⟨false, x1, _, rfl, rfl, (FL.t h3 h4).tr (FL.t z1 (TM.rf _)), .inr ⟨rfl, z2⟩⟩
end Sp
