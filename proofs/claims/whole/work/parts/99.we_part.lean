/-! ===== a law is read: one piece of a sum ===== -/
section Pt
variable {t : Nat → Nat} {n ls ib p A B D q bs k cc : Nat} {pr : Int32} {x m x' m' x1 m1 : St}
theorem op_121 {a e v c ph bg : Nat} {l : List Nat} {ob : Bool} (hT : TS t n p c a e l v x m) (hM : LSt ib B D q bs k ph bg pr ob m) (hk : k ≤ 5) (hD : D < 20) (hbg : bg ≤ 1) (hf : bg = 0 ∨ tst k = false ∨ (c ≠ 416 ∧ c ≠ 91 ∧ c ≠ 417)) : f_X11_operand m = f_X11_operand_121 (sI m 28 D (nI 0)) := by
  obtain ⟨g38, g37, g44, g45, g47, g48, g26, g27, g28, g29, g30⟩ := hM
  have a0 : f_X11_operand_60 (nI D) 0 m = f_X11_operand_121 (sI m 28 D (nI 0)) := by
    rw [e_X11_operand_60, if_pos (inb_nI hD (by omega)), ix_nI (by omega)]
    dsimp only [ltt]
    rw [if_pos rfl, if_pos rfl]; rfl
  rw [e_X11_operand]
  dsimp only [ltt]
  rw [g44, nI_pred, if_pos (inb_nI hD (by omega)), ix_nI (by omega), g26, tst_M hk]
  dsimp only [Option.bind]
  cases ht : tst k with
  | false => rw [bF, if_pos rfl, a0]
  | true =>
    rw [bT, if_pos (inb_nI hD (by omega)), g28]
    by_cases hb0 : bg = 0
    · rw [if_pos (by rw [hb0]; rfl), if_pos rfl, a0]
    · have h3 : c ≠ 416 ∧ c ≠ 91 ∧ c ≠ 417 := by
        rcases hf with h | h | h
        · exact absurd h hb0
        · rw [ht] at h; cases h
        · exact h
      have w1 : f_X11_isWord 7237492 m = some (0, m) := hT.w0 16 (by omega) (by omega)
      rw [if_neg (nI_ne0 (by omega) (by omega)), if_neg (by decide), w1]
      dsimp only
      rw [if_pos rfl, e_X11_operand_60, if_pos (inb_nI hD (by omega)), ix_nI (by omega)]
      dsimp only [ltt]
      have hT' : TS t n p c a e l v x (sI m 28 D (nI 0)) := hT.c (S3.rf _) (S0.s (by omega))
      have w2 : f_X11_isSign 91 (sI m 28 D (nI 0)) = some (0, sI m 28 D (nI 0)) := hT'.s0 91 (by omega) (by omega)
      have w3 : f_X11_isWord 6384748 (sI m 28 D (nI 0)) = some (0, sI m 28 D (nI 0)) := hT'.w0 17 (by omega) (by omega)
      rw [if_neg (by decide), show (0 : Int32) &&& 1 = nI 0 from rfl, w2]
      dsimp only [Option.bind]
      rw [if_pos rfl, if_neg (by decide), w3]
      dsimp only
      rw [if_pos rfl]
/-- a fault of the operand -/
theorem opFail {b : Bool} {m2 x2 : St} {A' : Nat} (hld : isLand ls) (hi : ib < 2) (hB : B ≤ 1600) (h48 : gI m 0 48 = 0) (hop : f_X11_operand m = some (bi b, m2)) (hX : XFr ls A x x2) (hM : MF ib B D q m m2) (hbd : Bd x2 m2) (h9 : gI x2 ls 9 = nI A') (hA : A' ≤ 1600) : BadR t n p A ls ib false x m x2 := by
  refine ⟨sI m2 0 48 (bi b), 2, by omega, fun N => ?_, hX.fl hld (hM.tr (MF.s (by unfold MFx; omega)) (Nat.le_refl _) (Nat.le_refl _) (Nat.le_refl _)) hi hB, ?_, A', h9, hA, .inl (hbd.c (S3.rf _) (S0.s (by omega)))⟩
  · rw [show N + 2 = N + 1 + 1 from rfl, rd_op (N + 1) h48 hop, if_neg hbd.f.1, rd_0]
  · rw [ge_n (by omega)]; exact hbd.f.1
/-- the operand is one step of the code -/
theorem leafS {a e v c ph bg H r wc : Nat} {l : List Nat} {s0 v0 v1 u : Int32} {tk : Tok} {Ψ : Nat → Nat → Prop} {ty : Bool} (hC : Cx n ls ib p A B D q bs k cc x) (h9 : gI x ls 9 = nI A) (hx : TX x x1) (hM : LSt ib B D q bs k ph bg pr false m) (hT : TS t n p c a e l v x1 m) (hc : c ≠ 302) {φ : Nat}
    (hop : f_X11_operand m = ((f_X11_add s0 v0 (sI m 28 D (nI 0))).bind fun q5 => if φ = 2 then (ltt (sI q5.2 27 D (nI 2)) fun σ => (f_X11_ahead σ).bind fun q6 => some ((1 : Int32), q6.2)) else (f_X11_ahead q5.2).bind fun q6 => some ((1 : Int32), q6.2))) (hX : tkX tk = [u]) (hMk : tkM tk = [(s0, v1)]) (hv : s0 = 0 → v0 = v1) (hE : Ex [tk] ty H) (hφ : φ ≠ 2 → φ = ph) (hΨ : ∀ c', Ψ φ c') :
    f_X5_step u x1 = some (1, adX ls A u (sI x1 3 7 0)) ∧ (BadR t n p A ls ib true x m (adX ls A u (sI x1 3 7 0)) ∨ Gd t n ls ib p A B D q bs k pr H r wc ty Ψ x m (adX ls A u (sI x1 3 7 0))) := by
  obtain ⟨hld, hR, hn, hi, hD, hb, hA, hBq, hp, h4, hk⟩ := hC
  have hls := land_o hld
  have hlB := landB_of hld
  have hbn := hT.nxc.bn
  have hB' := hT.2.2.1.b
  have hpe : p < e := hB'.2.2.2.resolve_left hc
  have h48 : gI m 0 48 = 0 := hM.2.2.2.2.2.1
  have hM0 := hM.s28 (b := 0)
  rw [add_M hM0.1 hM0.2.1 hi (by omega)] at hop
  dsimp only [Option.bind] at hop
  have hM1 := hM0.ad (s := s0) (v := v0)
  -- the store ahead of the next word
  obtain ⟨m3, hM3, f3, s3, hop3⟩ : ∃ m3, LSt ib (B + 1) D q bs k φ 0 pr false m3 ∧ MF ib (B + 1) D q (adM ib B s0 v0 (sI m 28 D (nI 0))) m3 ∧ S0 (adM ib B s0 v0 (sI m 28 D (nI 0))) m3 ∧ f_X11_operand m = (f_X11_ahead m3).bind fun q6 => some ((1 : Int32), q6.2) := by
    by_cases hφ2 : φ = 2
    · rw [if_pos hφ2] at hop
      exact ⟨_, by rw [hφ2]; exact hM1.s27 (b := 2), MF.s (by unfold MFx; omega), S0.s (by omega), hop⟩
    · rw [if_neg hφ2] at hop
      exact ⟨_, by rw [hφ hφ2]; exact hM1, MF.rf _ _ _ _ _, S0.rf _, hop⟩
  have hT3 : TS t n p c a e l v x1 m3 := (hT.c (S3.rf _) ((S0.s (by omega)).tr adM_0)).c (S3.rf _) s3
  obtain ⟨m4, a1, a2, a3, a4, a5, a6, a7⟩ := hT3.adv hc
  rw [a2] at hop3
  dsimp only [Option.bind] at hop3
  have hen := a7.2.1
  have g9 : gI (sI x1 3 7 0) ls 9 = nI A := (a3.1 _ _ (by omega) (by omega)).trans ((hx.1 _ _ (by omega) (by omega)).trans h9)
  have gR1 : gR (sI x1 3 7 0) 5 1 = ls := (a3.2.1 5 1).trans ((hx.2.1 5 1).trans hR)
  have hXf : XFr ls A x (adX ls A u (sI x1 3 7 0)) := ((XFr.tt hx).tr (XFr.tt a3) (Nat.le_refl _)).tr (adX_f hld) (Nat.le_refl _)
  have hMf : MF ib B D q m (sI m4 0 48 (bi true)) := ((((MF.s (by unfold MFx; omega)).tr (adM_f hi (by omega)) (Nat.le_refl _) (Nat.le_refl _) (Nat.le_refl _)).tr f3 (by omega) (Nat.le_refl _) (Nat.le_refl _)).tr (MF.tt a5) (Nat.le_refl _) (Nat.le_refl _) (Nat.le_refl _)).tr (MF.s (by unfold MFx; omega)) (Nat.le_refl _) (Nat.le_refl _) (Nat.le_refl _)
  have nx : NX t n e (adX ls A u (sI x1 3 7 0)) (sI m4 0 48 (bi true)) := a7.c (adX_3 hld) (S0.s (by omega))
  have g9' : gI (adX ls A u (sI x1 3 7 0)) ls 9 = nI (A + 1) := ge_s
  have hcode : CodeM (sI m4 0 48 (bi true)) (1600 * ib + B) [(s0, v1)] := by
    have c0 : CodeM (adM ib B s0 v0 (sI m 28 D (nI 0))) (1600 * ib + B) [(s0, v1)] := by
      intro i hi'
      have : i = 0 := by simp at hi'; omega
      subst this
      have := adM_c (ib := ib) (B := B) (s := s0) (v := v0) (m := sI m 28 D (nI 0)) 0 (by simp)
      exact ⟨this.1, fun z => (this.2 z).trans (hv z)⟩
    exact ((c0.kk f3 (Nat.le_refl _)).kk (MF.tt a5 : MF ib (B + 1) D q _ _) (Nat.le_refl _)).kk (MF.s (by unfold MFx; omega) : MF ib (B + 1) D q _ _) (Nat.le_refl _)
  refine ⟨?_, ?_⟩
  · rw [e_X5_step, a1]
    dsimp only [Option.bind, ltt]
    rw [gR1, if_pos hlB, add_X g9 (by omega)]
    rfl
  rcases NXc.of nx with ⟨c2, n5⟩ | n5
  · right
    refine ⟨e, c2, φ, 1, [tk], [(s0, v1)], [], sI m4 0 48 (bi true), ⟨⟨hpe, n5⟩, hXf, hMf, ?_, ⟨?_, ?_⟩, ⟨hcode, trivial, ?_⟩, ⟨?_, ?_⟩, by omega, fun N => ?_⟩, hE, hΨ c2, fun w hw => (by cases hw), by simp only [List.length_nil]; omega⟩
    · exact (hM3.tt a5).s48
    · rw [cX1, hX]; exact adX_c
    · rw [cX1, hX]; exact g9'
    · rw [cM1, hMk]; rfl
    · rw [cX1, hX]; simp only [List.length_singleton]; omega
    · rw [cM1, hMk]; simp only [List.length_singleton]; omega
    · rw [rd_op (b := true) N h48 hop3, if_pos]
      have := n5.e8
      rw [ge_n (by omega)] at this; exact this
  · left
    refine ⟨sI m4 0 48 (bi true), 2, by omega, fun N => ?_, hXf.fl hld hMf hi (by omega), n5, A + 1, g9', by omega, .inr ⟨rfl, e, nx, by omega, by omega⟩⟩
    rw [show N + 2 = N + 1 + 1 from rfl, rd_op (b := true) (N + 1) h48 hop3, if_neg (by rw [ge_n (by omega)] at n5; exact n5), rd_0]
theorem Ex.leaf {tk : Tok} {H : Nat} (h : (tk.1 = 0 ∧ tk.2 ≤ 1000000) ∨ (tk.1 = 1 ∧ tk.2 < 5)) (hH : H < 64) : Ex [tk] false H := by
  intro ts ht
  rw [chk1]
  unfold tkT
  rcases h with ⟨h1, h2⟩ | ⟨h1, h2⟩
  · rw [if_pos h1, if_pos ⟨h2, by omega⟩]
  · rw [if_neg (by omega), if_pos h1, if_pos ⟨h2, by omega⟩]
theorem Ex.all {H : Nat} (hH : H < 64) : Ex [(2, 0)] true H := by
  intro ts ht
  rw [chk1]
  unfold tkT
  rw [if_neg (by decide), if_neg (by decide), if_pos rfl, if_pos (by omega)]
/-- a bracket opens there -/
theorem opens_S {a e v c ph bg k2 : Nat} {l : List Nat} {ob : Bool} (hT : TS t n p c a e l v x m) (hc : c ≠ 302) (hM : LSt ib B D q bs k ph bg pr ob m) (hD : D < 8) : ∃ m2, f_X11_opens (nI k2) m = some ((), m2) ∧ f_X6_skip x = some ((), sI x 3 7 0) ∧ TX x (sI x 3 7 0) ∧ p < e ∧ NX t n e (sI x 3 7 0) m2 ∧ MF ib B (D + 1) q m m2 ∧ LSt ib B (D + 1) q q k2 0 1 (gI m2 29 (D + 1)) ob m2 := by
  obtain ⟨g38, g37, g44, g45, g47, g48, g26, g27, g28, g29, g30⟩ := hM
  obtain ⟨m4, a1, a2, a3, a4, a5, a6, a7⟩ := (hT.c (m' := sI m 0 45 (nI (D + 1))) (S3.rf _) (S0.s (by omega))).adv hc
  have t4 : ∀ o j, ¬ (o = 0 ∧ 3 ≤ j ∧ j ≤ 9) → ¬ (o = 0 ∧ j = 45) → gI m4 o j = gI m o j := fun o j h1 h2 => (a5.1 o j h1).trans (ge_n (by omega))
  have e44 : gI m4 0 44 = nI (D + 1) := (t4 0 44 (by omega) (by omega)).trans g44
  have e47 : gI m4 0 47 = nI q := (t4 0 47 (by omega) (by omega)).trans g47
  refine ⟨sI (sI (sI (sI (sI m4 26 (D + 1) (nI k2)) 27 (D + 1) (nI 0)) 28 (D + 1) (nI 1)) 30 (D + 1) (nI q)) 0 44 (nI (D + 2)), ?_, a1, a3, a6, ?_, ?_, ?_⟩
  · rw [e_X11_opens, g45, if_neg (show ¬ nI D = (8 : Int32) from fun z => by have := (nI_eq (b := 8) (by omega) (by omega)).mp z; omega), if_pos hT.le]
    dsimp only [ltt]
    rw [nI_1, a2]
    dsimp only [Option.bind]
    rw [e_X11_pushes, e44, if_pos (inb_nI (by omega) (by omega)), ix_nI (by omega)]
    dsimp only [ltt]
    rw [show gI (sI m4 26 (D + 1) (nI k2)) 0 44 = nI (D + 1) from (ge_n (by omega)).trans e44, if_pos (inb_nI (by omega) (by omega)), ix_nI (by omega), show gI (sI (sI m4 26 (D + 1) (nI k2)) 27 (D + 1) 0) 0 44 = nI (D + 1) from (ge_n (by omega)).trans ((ge_n (by omega)).trans e44), if_pos (inb_nI (by omega) (by omega)), ix_nI (by omega), show gI (sI (sI (sI m4 26 (D + 1) (nI k2)) 27 (D + 1) 0) 28 (D + 1) (1 &&& 1)) 0 44 = nI (D + 1) from (ge_n (by omega)).trans ((ge_n (by omega)).trans ((ge_n (by omega)).trans e44)), if_pos (inb_nI (by omega) (by omega)), ix_nI (by omega), show gI (sI (sI (sI m4 26 (D + 1) (nI k2)) 27 (D + 1) 0) 28 (D + 1) (1 &&& 1)) 0 47 = nI q from (ge_n (by omega)).trans ((ge_n (by omega)).trans ((ge_n (by omega)).trans e47)), show gI (sI (sI (sI (sI m4 26 (D + 1) (nI k2)) 27 (D + 1) 0) 28 (D + 1) (1 &&& 1)) 30 (D + 1) (nI q)) 0 44 = nI (D + 1) from (ge_n (by omega)).trans ((ge_n (by omega)).trans ((ge_n (by omega)).trans ((ge_n (by omega)).trans e44))), nI_1]
    rfl
  · exact a7.c (S3.rf _) ((((((S0.s (by omega)).tr (S0.s (by omega))).tr (S0.s (by omega))).tr (S0.s (by omega))).tr (S0.s (by omega))))
  · have f0 : MF ib B (D + 1) q m m4 := (MF.s (by unfold MFx; omega)).tr (MF.tt a5) (Nat.le_refl _) (Nat.le_refl _) (Nat.le_refl _)
    have st : ∀ {o j : Nat} {w : Int32} {u : St}, MFx ib B (D + 1) q o j → MF ib B (D + 1) q m u → MF ib B (D + 1) q m (sI u o j w) := fun h1 h2 => h2.tr (MF.s h1) (Nat.le_refl _) (Nat.le_refl _) (Nat.le_refl _)
    exact st (by unfold MFx; omega) (st (by unfold MFx; omega) (st (by unfold MFx; omega) (st (by unfold MFx; omega) (st (by unfold MFx; omega) f0))))
  · have g : ∀ o j, ¬ (o = 0 ∧ 3 ≤ j ∧ j ≤ 9) → ¬ (o = 0 ∧ (j = 44 ∨ j = 45)) → ¬ (26 ≤ o ∧ o ≤ 30) → gI (sI (sI (sI (sI (sI m4 26 (D + 1) (nI k2)) 27 (D + 1) (nI 0)) 28 (D + 1) (nI 1)) 30 (D + 1) (nI q)) 0 44 (nI (D + 2))) o j = gI m o j := fun o j h1 h2 h3 => (ge_n (by omega)).trans ((ge_n (by omega)).trans ((ge_n (by omega)).trans ((ge_n (by omega)).trans ((ge_n (by omega)).trans (t4 o j h1 (by omega))))))
    refine ⟨(g _ _ (by omega) (by omega) (by omega)).trans g38, (g _ _ (by omega) (by omega) (by omega)).trans g37, ge_s, ?_, (g _ _ (by omega) (by omega) (by omega)).trans g47, (g _ _ (by omega) (by omega) (by omega)).trans g48, ?_, ?_, ?_, rfl, ?_⟩
    · exact (ge_n (by omega)).trans ((ge_n (by omega)).trans ((ge_n (by omega)).trans ((ge_n (by omega)).trans ((ge_n (by omega)).trans ((a5.1 _ _ (by omega)).trans ge_s)))))
    · exact (ge_n (by omega)).trans ((ge_n (by omega)).trans ((ge_n (by omega)).trans ((ge_n (by omega)).trans ge_s)))
    · exact (ge_n (by omega)).trans ((ge_n (by omega)).trans ((ge_n (by omega)).trans ge_s))
    · exact (ge_n (by omega)).trans ((ge_n (by omega)).trans ge_s)
    · exact (ge_n (by omega)).trans ge_s
end Pt
