/-! ===== feast, the step ===== -/
section FeastS
variable {ld bk : Nat} {L : LD}
theorem feastP {p : Nat} {x m : St} (h : K ld bk L x m) (rc : RCon ld L x) (hp : p < L.np) : ∃ (b : Bool) (x' m' : St), (∀ (K0 K1 : St → Option (Int32 × St)), ((f_X1_gainable (nI p) x).bind fun q2 => (f_X1_draw (q2.1 + (1 : Int32)) q2.2).bind fun q3 => if q3.1 ≤ 0 then K0 q3.2 else ((f_X1_gainableAt (nI p) q3.1 q3.2).bind fun q4 => (f_X1_makeTitle (nI p) q4.1 q4.2).bind fun q5 => if q5.1 = (-1 : Int32) then K0 q5.2 else K1 q5.2)) = if b = true then K1 x' else K0 x') ∧ f_X11_feastOf (nI p) m = some (bi b, m') ∧ K ld bk L x' m' ∧ RCon ld L x' := by
  have h12 := h.2.2.2.1.2.1.1
  have h8 := h.2.2.2.1.1.1
  obtain ⟨c, x1, m1, e1, e2, k1, rc1, b1⟩ := gainableB hp L.nt 0 FU FU 0 x m h rc (by omega) (by rw [FU_eq]; omega) (by rw [FU_eq]; omega)
  have e1' : f_X1_gainable (nI p) x = some (nI c, x1) := by rw [e_X1_gainable]; exact e1
  have e2' : f_X11_feastOf (nI p) m = _ := (e_X11_feastOf (nI p) m).trans e2
  obtain ⟨r, s, hr, hs, d1, d2, k2⟩ := drawB k1 (c := c) (by omega)
  have rc2 : RCon ld L (sL x1 18 4 (lN s)) := rc1.c (fun _ => rfl) (fun _ => rfl) rfl rfl (fun _ => rfl) (fun _ => rfl)
  rw [d2] at e2'
  dsimp only [Option.bind] at e2'
  have X0 : ∀ (K0 K1 : St → Option (Int32 × St)), ((f_X1_gainable (nI p) x).bind fun q2 => (f_X1_draw (q2.1 + (1 : Int32)) q2.2).bind fun q3 => if q3.1 ≤ 0 then K0 q3.2 else ((f_X1_gainableAt (nI p) q3.1 q3.2).bind fun q4 => (f_X1_makeTitle (nI p) q4.1 q4.2).bind fun q5 => if q5.1 = (-1 : Int32) then K0 q5.2 else K1 q5.2)) = if nI r ≤ 0 then K0 (sL x1 18 4 (lN s)) else ((f_X1_gainableAt (nI p) (nI r) (sL x1 18 4 (lN s))).bind fun q4 => (f_X1_makeTitle (nI p) q4.1 q4.2).bind fun q5 => if q5.1 = (-1 : Int32) then K0 q5.2 else K1 q5.2) := by
    intro K0 K1
    rw [e1']
    dsimp only [Option.bind]
    rw [d1]
  by_cases z : r = 0
  · subst z
    refine ⟨false, _, _, fun K0 K1 => ?_, ?_, k2, rc2⟩
    · rw [X0, if_pos (by decide), if_neg (by decide)]
    · obtain ⟨-, hs2, hb2, hl2, hw2, hd2⟩ := id k2
      obtain ⟨f, hf⟩ : ∃ f, FU = f + 1 := ⟨FU - 1, by rw [FU_eq]⟩
      rw [hf, e_X11_feastOf_51, hb2.2, (bk_ix hb2.1).1, if_pos rfl, (bk_ix hb2.1).2, hl2.2.1.2.2] at e2'
      rw [e2']
      split
      · rfl
      · rw [if_pos (by decide)]; rfl
  · obtain ⟨x3, m3, k3, rc3, alt⟩ := selectB hp (r := r) (by omega) L.nt 0 FU FU 0 _ _ k2 rc2 (by omega) (by omega) (by rw [FU_eq]; omega) (by rw [FU_eq]; omega)
    obtain ⟨-, hs3, hb3, hl3, hw3, hd3⟩ := id k3
    have l16 := land16 hs3.2.1
    rw [Nat.sub_zero] at alt
    rcases alt with ⟨t, ht, hh, en, ⟨x4, g1, q4⟩, a1, a2⟩ | ⟨a1, a2⟩
    · have a1' : f_X1_gainableAt (nI p) (nI r) (sL x1 18 4 (lN s)) = some (nI t, x3) := by rw [e_X1_gainableAt]; exact a1
      have k4 := k3.sc q4 (ScM.rf m3)
      obtain ⟨lo4, en4, lz4, ha4⟩ := lz_c (L := L) hs3.2.1 q4 p t
      obtain ⟨x5, m5, f1, f2, k5, tw, lo, fx⟩ := makeB k4 hp ht (by rw [ha4]; exact hh) (en4.mpr en) (nI (lz x3 ld L p t (L.tn t).length))
      obtain ⟨-, hs5, hb5, hl5, hw5, hd5⟩ := id k5
      obtain ⟨n1, n2⟩ := load_N hl5 hd5 (p := p) (by omega)
      have p6 := (nmT hl3 ht).2.1
      have lzb := lz_le hl3 (p := p) ht (L.tn t).length (Nat.le_refl _)
      have rc4 : RCon ld L x4 := rc3.sc hs3.2.1 q4
      refine ⟨true, x5, m5, fun K0 K1 => ?_, ?_, k5, rc4.t (fun q k h1 h2 h3 => lo _ (by omega) (by omega) (by omega)) (fun W => Nat.le_of_eq (tw W)) (fx 6 2 (by decide) (by decide) (by decide) (by decide) (by decide)) (fx 6 3 (by decide) (by decide) (by decide) (by decide) (by decide)) (fun k => fx 9 k (by decide) (by decide) (by decide) (by decide) (by decide)) (fun k => fx _ k (by omega) (by omega) (by omega) (by omega) (by omega))⟩
      · rw [X0, if_neg (nI_nle (by omega) (by omega)), a1', if_pos rfl]
        dsimp only [Option.bind]
        have mk : f_X1_makeTitle (nI p) (nI t) x3 = some (loadS x5 ld L p, x5) := by
          rw [e_X1_makeTitle, g1]
          dsimp only [Option.bind]
          rw [if_neg (nI_ne1 (by omega))]
          exact f1
        rw [mk, n1]
        dsimp only
        rw [if_neg (nI_ne1 (by omega))]
      · refine e2'.trans (a2.trans ?_)
        rw [e_X11_gains, lz_M k4 hp ht, lz4]
        dsimp only [Option.bind]
        rw [f2]
        rfl
    · have a1' : f_X1_gainableAt (nI p) (nI r) (sL x1 18 4 (lN s)) = some (-1, x3) := by rw [e_X1_gainableAt]; exact a1
      refine ⟨false, x3, m3, fun K0 K1 => ?_, e2'.trans a2, k3, rc3⟩
      rw [X0, if_neg (nI_nle (by omega) (by omega)), a1', if_neg (by decide)]
      dsimp only [Option.bind]
      have mk : f_X1_makeTitle (nI p) (-1) x3 = some (-1, x3) := by
        rw [e_X1_makeTitle, e_X2_gainOunces, lacks_no hs3 hl3 (Or.inr (inb_neg (by decide)))]
        dsimp only [Option.bind]
        rw [if_pos rfl]
        dsimp only
        rw [if_pos rfl]
      rw [mk]
      dsimp only
      rw [if_pos rfl]
theorem feastLoop : ∀ d i n n' c (x m : St), K ld bk L x m → RCon ld L x → i + d = L.np → d < n → d < n' → ∃ c' x' m', f_X10_feast_4 n (nI c) (nI i) x = some (nI c', x') ∧ f_X11_feast_4 n' (nI c) (nI i) m = some (nI c', m') ∧ K ld bk L x' m' ∧ RCon ld L x' := by
  intro d
  induction d with
  | zero =>
    intro i n n' c x m h rc hi hn hn'
    obtain ⟨n, rfl⟩ : ∃ k, n = k + 1 := ⟨n - 1, by omega⟩
    obtain ⟨n', rfl⟩ : ∃ k, n' = k + 1 := ⟨n' - 1, by omega⟩
    obtain ⟨-, hs, hb, hl, hw, hd⟩ := id h
    have h8 := hl.1.1
    refine ⟨c, x, m, ?_, ?_, h, rc⟩
    · rw [e_X10_feast_4]
      dsimp only [ltt]
      rw [hs.1, if_pos (landB_of hs.2.1), hl.1.2.1, if_pos (nI_le (by omega) (by omega))]
    · rw [e_X11_feast_4, hb.2, (bk_ix hb.1).1, if_pos rfl, (bk_ix hb.1).2, hl.1.2.2, if_pos (nI_le (by omega) (by omega))]
  | succ d ih =>
    intro i n n' c x m h rc hi hn hn'
    obtain ⟨n, rfl⟩ : ∃ k, n = k + 1 := ⟨n - 1, by omega⟩
    obtain ⟨n', rfl⟩ : ∃ k, n' = k + 1 := ⟨n' - 1, by omega⟩
    obtain ⟨-, hs, hb, hl, hw, hd⟩ := id h
    have h8 := hl.1.1
    obtain ⟨b, x1, m1, eX, eM, k1, rc1⟩ := feastP h rc (show i < L.np by omega)
    obtain ⟨c', x', m', f1, f2, k2, rc2⟩ := ih (i + 1) n n' (c + if b = true then 1 else 0) x1 m1 k1 rc1 (by omega) (by omega) (by omega)
    refine ⟨c', x', m', ?_, ?_, k2, rc2⟩
    · rw [e_X10_feast_4]
      dsimp only [ltt]
      rw [hs.1, if_pos (landB_of hs.2.1), hl.1.2.1, if_neg (nI_ge (by omega) (by omega)), nI_1, nI_1]
      have := eX (fun σ => f_X10_feast_4 n (nI c) (nI (i + 1)) σ) (fun σ => f_X10_feast_4 n (nI (c + 1)) (nI (i + 1)) σ)
      refine Eq.trans this ?_
      cases b
      · exact f1
      · exact f1
    · rw [e_X11_feast_4, hb.2, (bk_ix hb.1).1, if_pos rfl, (bk_ix hb.1).2, hl.1.2.2, if_neg (nI_ge (by omega) (by omega)), eM]
      dsimp only [Option.bind, ltt]
      rw [nI_1]
      cases b
      · rw [show nI c + bi false = nI c from by show nI c + nI 0 = nI c; rw [nI_add, Nat.add_zero]]
        exact f2
      · rw [show nI c + bi true = nI (c + 1) from nI_1 c]
        exact f2
theorem step22 : Step_22 RelF := by
  intro x m h
  obtain ⟨ld, bk, L, k0, rc⟩ := h.op
  have h8 := k0.2.2.2.1.1.1
  obtain ⟨c', x', m', g1, g2, g3, g4⟩ := feastLoop L.np 0 FU FU 0 x m k0 rc (by omega) (by rw [FU_eq]; omega) (by rw [FU_eq]; omega)
  refine ⟨nI c', x', m', ?_, ?_, g3.rel g4⟩
  · have g1' : f_X10_feast_4 FU 0 0 x = some (nI c', x') := g1
    rw [e_X10_feast, g1']
  · rw [e_X11_feast]; exact g2
end FeastS
