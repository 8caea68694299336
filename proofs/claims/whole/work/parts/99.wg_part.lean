/-! ===== a law is read: a piece of a product ===== -/
def PreA (t : Nat → Nat) (n ls ib p c A B D q bs k : Nat) (pr : Int32) (ph bg r cc : Nat) (x m : St) : Prop := NXc t n p c x m ∧ Cx n ls ib p A B D q bs k cc x ∧ gI x ls 9 = nI A ∧ LSt ib B D q bs k ph bg pr false m ∧ TopR r bs q m ∧ ph ≤ 1 ∧ bg ≤ 1 ∧ (bg = 0 ∨ tst k = false ∨ (c ≠ 416 ∧ c ≠ 91 ∧ c ≠ 417))
def SumC (t : Nat → Nat) (n ls ib D : Nat) (f : Int32 → St → Option (Int32 × St)) : Prop := ∀ p c A B q bs k pr ph bg x m, PreA t n ls ib p c A B D q bs k pr ph bg 5 13 x m → Ctr t n ls ib p A B D q bs k pr (3 + 5 * D) 5 8 false (fun ph' c' => ph' = ph ∧ ¬ ari c') (f (nI D) x) x m
section Pc
variable {t : Nat → Nat} {n ls ib p A B D q bs k : Nat} {pr : Int32} {x m x' m' x1 m1 x3 m3 : St}
theorem endS {e j1 φ p3 : Nat} {s : List Tok} {E : List (Int32 × Int32)} {y m5 : St} (hld : isLand ls) (hi : ib < 2) (hB : B ≤ 1600) (hA : A ≤ p) (hj : j1 ≤ p3 - p) (hr : ∀ N, f_X11_reads_43 (N + j1) 1 m = f_X11_reads_43 N 1 m3) (h48 : gI m3 0 48 = 1) (hgo : f_X11_goesOn m3 = some (1, m5)) (hX : XFr ls A x y) (hp : p ≤ p3) (hpe : p3 < e) (hn : NX t n e y m5) (hM : MF ib B D q m m5) (hL : LSt ib (B + E.length) D q bs k φ 0 pr true m5) (hcX : CodeX y (ls + 19) A (cX s)) (h9 : gI y ls 9 = nI (A + (cX s).length)) (hcM : CodeM m5 (1600 * ib + B) E) (hE : cM s = E) (hl1 : (cX s).length ≤ e - p) (hl2 : (cM s).length ≤ e - p) :
    BadR t n p A ls ib true x m y ∨ ∃ c', PS t n ls ib p A B D q bs k pr e c' φ (1 + j1) s E [] x m y m5 := by
  have hen := hn.2.1
  have hn16 := hn.1.2.1
  rcases NXc.of hn with ⟨c', n5⟩ | n5
  · right
    refine ⟨c', ⟨by omega, n5⟩, hX, hM, hL, ⟨hcX, h9⟩, ⟨hcM, trivial, by rw [hE]; simp [pW]⟩, ⟨hl1, hl2⟩, by omega, fun N => ?_⟩
    rw [show N + (1 + j1) = N + 1 + j1 by omega, hr, rd_go (b := true) N h48 hgo, if_neg nTF, if_pos n5.e8]
  · left
    refine ⟨m5, 2 + j1, by omega, fun N => ?_, hX.fl hld hM hi hB, n5, A + (cX s).length, h9, by omega, .inr ⟨rfl, e, hn, by omega, by omega⟩⟩
    rw [show N + (2 + j1) = N + 1 + 1 + j1 by omega, hr, rd_go (b := true) (N + 1) h48 hgo, if_neg nTF, if_neg n5, rd_0]
theorem leafC {H r wc : Nat} {Ψ : Nat → Nat → Prop} {ty : Bool} {u : Int32} (h : ∃ y, f_X5_step u x1 = some (1, y) ∧ (BadR t n p A ls ib true x m y ∨ Gd t n ls ib p A B D q bs k pr H r wc ty Ψ x m y)) : Ctr t n ls ib p A B D q bs k pr H r wc ty Ψ ((f_X5_step u x1).bind fun q29 => if zok q29.1 = true then some (q29.1, q29.2) else none) x m := by
  obtain ⟨y, e1, e2⟩ := h
  rw [e1]
  exact ⟨true, y, rfl, e2.imp id (fun z => ⟨rfl, z⟩)⟩
theorem badC {H r wc : Nat} {Ψ : Nat → Nat → Prop} {ty : Bool} {f : Option (Int32 × St)} (h : ∃ y, f = some (0, y) ∧ BadR t n p A ls ib false x m y) : Ctr t n ls ib p A B D q bs k pr H r wc ty Ψ f x m := by
  obtain ⟨y, e1, e2⟩ := h
  exact ⟨false, y, e1, .inl e2⟩
/-- a sum in brackets -/
theorem paren_C {a e v c ph bg : Nat} {l : List Nat} {rec : Int32 → St → Option (Int32 × St)} (hrec : D < 8 → SumC t n ls ib (D + 1) rec) (hbad : D < 8 → BadF t n ls ib (rec (nI (D + 1)))) (hC : Cx n ls ib p A B D q bs k 21 x) (h9 : gI x ls 9 = nI A) (hM : LSt ib B D q bs k ph bg pr false m) (hx : TX x x1) (hT : TS t n p c a e l v x1 m) (hc : c = 40) (hop : f_X11_operand m = f_X11_operand_121 (sI m 28 D (nI 0))) :
    Ctr t n ls ib p A B D q bs k pr (5 + 5 * D) 7 0 false (fun ph' _ => ph' = ph) ((f_X5_bracket (nI D) x1).bind fun q25 => if q25.1 = 0 then (some ((0 : Int32), q25.2)) else ((rec (nI D + (1 : Int32)) q25.2).bind fun q26 => if q26.1 = 0 then (some ((0 : Int32), q26.2)) else ((f_X5_token (41 : Int32) q26.2).bind fun q27 => if q27.1 = 0 then (some ((0 : Int32), q27.2)) else (some ((1 : Int32), q27.2))))) x m := by
  obtain ⟨hld, hR, hn, hi, hD, hb, hA, hBq, hp, h4, hk⟩ := id hC
  have hls := land_o hld
  have hbn := hT.nxc.bn
  have h48 : gI m 0 48 = 0 := hM.2.2.2.2.2.1
  have hM0 := hM.s28 (b := 0)
  have hT0 : TS t n p c a e l v x1 (sI m 28 D (nI 0)) := hT.c (S3.rf _) (S0.s (by omega))
  have s40 : f_X11_isSign 40 (sI m 28 D (nI 0)) = some (1, sI m 28 D (nI 0)) := hT0.s1 40 (by omega) hc
  have f0 : ∀ D', D' ≤ D → MF ib B D' q m (sI m 28 D (nI 0)) := fun D' hD' => MF.s (by unfold MFx; omega)
  rw [e_X11_operand_121, s40] at hop
  dsimp only [Option.bind] at hop
  rw [if_neg (by decide)] at hop
  have g9 : gI x1 ls 9 = nI A := (hx.1 _ _ (by omega) (by omega)).trans h9
  by_cases hD8 : D < 8
  · obtain ⟨m2, o1, o2, o3, o4, o5, o6, o7⟩ := opens_S (k2 := 2) hT0 (by omega) hM0 hD8
    rw [show (2 : Int32) = nI 2 from rfl, o1] at hop
    dsimp only at hop
    have L2 := o7.s48 (b := false)
    have n2 : NX t n e (sI x1 3 7 0) (sI m2 0 48 (bi false)) := o5.c (S3.rf _) (S0.s (by omega))
    have hen := n2.2.1
    have f2 : ∀ D', D' ≤ D → MF ib B D' q m (sI m2 0 48 (bi false)) := fun D' hD' => ((f0 D' hD').tr o6 (Nat.le_refl _) (by omega) (Nat.le_refl _)).tr (MF.s (by unfold MFx; omega) : MF ib B D' q _ _) (Nat.le_refl _) (Nat.le_refl _) (Nat.le_refl _)
    have xs9 : gI (sI x1 3 7 0) ls 9 = nI A := (o3.1 _ _ (by omega) (by omega)).trans g9
    have xsR : gR (sI x1 3 7 0) 5 1 = ls := (o3.2.1 5 1).trans ((hx.2.1 5 1).trans hR)
    have xsX : XFr ls A x (sI x1 3 7 0) := (XFr.tt hx).tr (XFr.tt o3) (Nat.le_refl _)
    have hfl : BF ls ib x m (sI x1 3 7 0) (sI m2 0 48 (bi false)) := xsX.fl hld (f2 D (Nat.le_refl _)) hi (by omega)
    rw [e_X5_bracket, if_pos (show nI D < (8 : Int32) from nI_lt (b := 8) hD8 (by omega)), o2]
    dsimp only [Option.bind]
    rw [if_neg (by decide), nI_1]
    rcases NXc.of n2 with ⟨c2, n2'⟩ | n2'
    · have hgood : gI m2 0 8 = 0 := by have := n2'.e8; rw [ge_n (by omega)] at this; exact this
      have hst : ∀ N, f_X11_reads_43 (N + 1) 1 m = f_X11_reads_43 N 1 (sI m2 0 48 (bi false)) := fun N => by rw [rd_op (b := false) N h48 hop, if_pos hgood]
      obtain ⟨b3, x3, r1, r2⟩ := hrec hD8 e c2 A B q q 2 _ 0 1 (sI x1 3 7 0) (sI m2 0 48 (bi false)) ⟨n2', ⟨hld, xsR, hn, hi, by omega, Nat.le_refl _, by omega, by omega, by omega, by omega, by omega⟩, xs9, L2, .inl rfl, by omega, by omega, .inr (.inl rfl)⟩
      rw [r1]
      dsimp only
      rcases r2 with r2 | ⟨rfl, p3, c3, ph3, j3, s2, E2, W2, m3, r2, r3, ⟨r4, r4'⟩, r5, r6⟩
      · have r2' := r2.pre (p := p) (A := A) (j1 := 1) hfl (by omega) (by omega) hen (by omega) hst
        cases b3
        · rw [bF]; exact badC ⟨x3, rfl, r2'⟩
        · obtain ⟨y, t1, t2⟩ := r2'.tok (due := 41) hld (by omega) (by omega)
          rw [bT, show (41 : Int32) = nI 41 from rfl, t1]
          exact badC ⟨y, rfl, t2⟩
      · rw [bT]
        obtain ⟨a4, e4, l4, v4, x4, k1, k2, k3⟩ := r2.lk hld
        have hL3 := k2.2.2.2.1
        have h409 := to409 k3 hL3 (by omega) (by omega) (by omega) (.inr r4') (fun z => by cases z)
        have hC1 : Cx n ls ib e A B (D + 1) q q 2 13 (sI x1 3 7 0) := ⟨hld, xsR, hn, hi, by omega, Nat.le_refl _, by omega, by omega, by omega, by omega, by omega⟩
        have hb3 := k2.1.2.bn
        have hp3 := k2.1.1
        have hl3 := k2.2.2.2.2.2.2.1
        by_cases hc3 : c3 = 41
        · obtain ⟨m5, z1, z2, z3, z4, z5, z6, z7, z8⟩ := closeS (k := k) (ph := ph) (pr := pr) (bs := bs) hC1 (by omega) k2 k3 h409 (.inl rfl) (by rw [if_neg (by decide)]; exact hc3) (fun w hw => by have := r5 w hw; omega) (by omega) ⟨(ge_n (by omega)).trans ((o6.1 _ _ (by unfold MFx; omega)).trans hM0.2.2.2.2.2.2.1), (ge_n (by omega)).trans ((o6.1 _ _ (by unfold MFx; omega)).trans hM0.2.2.2.2.2.2.2.1), (ge_n (by omega)).trans ((o6.1 _ _ (by unfold MFx; omega)).trans hM0.2.2.2.2.2.2.2.2.1), (ge_n (by omega)).trans ((o6.1 _ _ (by unfold MFx; omega)).trans hM0.2.2.2.2.2.2.2.2.2.1), (ge_n (by omega)).trans ((o6.1 _ _ (by unfold MFx; omega)).trans hM0.2.2.2.2.2.2.2.2.2.2)⟩ [] (by rw [if_neg (by decide)]) (by omega)
          rw [if_neg (by decide), List.append_nil] at z8
          rw [List.append_nil] at z7
          have hen4 := z5.2.1
          have fin := endS (x := x) (m := m) (p := p) (A := A) (B := B) (D := D) (q := q) (bs := bs) (k := k) (pr := pr) (j1 := j3 + 1) (p3 := p3) (s := s2) (E := cM s2) hld hi (by omega) hA (by have := k2.2.2.2.2.2.2.2.1; omega) (fun N => by rw [← Nat.add_assoc, hst, k2.2.2.2.2.2.2.2.2]) hL3.2.2.2.2.2.1 z1 ((xsX.tr k2.2.1 (Nat.le_refl _)).tr (XFr.tt z3) (Nat.le_refl _)) (by omega) z4 z5 ((f2 D (Nat.le_refl _)).tr z6 (Nat.le_refl _) (Nat.le_refl _) (Nat.le_refl _)) z8 (fun i hi' => (z3.1 _ _ (by omega) (by omega)).trans (k2.2.2.2.2.1.1 i hi')) ((z3.1 _ _ (by omega) (by omega)).trans k2.2.2.2.2.1.2) z7 rfl (by omega) (by omega)
          rw [show f_X5_token (41 : Int32) x3 = some (1, sI x4 3 7 0) from by rw [e_X5_token, k1]; dsimp only [Option.bind]; rw [if_pos (by rw [hc3]; rfl), z2]]
          dsimp only
          rw [if_neg (by decide)]
          refine ⟨true, _, rfl, ?_⟩
          rcases fin with fin | ⟨c', fin⟩
          · exact .inl fin
          · exact .inr ⟨rfl, e4, c', ph, _, s2, _, [], m5, fin, r3.w (by omega), rfl, fun w hw => (by cases hw), by simp only [List.length_nil]; omega⟩
        · obtain ⟨x5, z1, z2⟩ := closeF hC1 k2 k3 h409 (.inl rfl) (by rw [if_neg (by decide), if_neg (by decide)]; exact hc3)
          have z3 := z2.pre (p := p) (A := A) (j1 := 1) hfl (by omega) (by omega) hen (by omega) hst
          rw [show f_X5_token (41 : Int32) x3 = some (0, x5) from by rw [e_X5_token, k1]; dsimp only [Option.bind]; rw [if_neg (show ¬ nI c3 = (41 : Int32) from nI_ne (k := 41) k3.cl (by omega) hc3), z1]; rfl]
          exact badC ⟨x5, rfl, z3⟩
    · have hbadm : ¬ gI m2 0 8 = 0 := by rw [ge_n (by omega)] at n2'; exact n2'
      have hB1 : BadR t n p A ls ib true x m (sI x1 3 7 0) := by
        refine ⟨sI m2 0 48 (bi false), 2, by omega, fun N => ?_, hfl, n2', A, xs9, by omega, .inr ⟨rfl, e, n2, by omega, by omega⟩⟩
        rw [show N + 2 = N + 1 + 1 from rfl, rd_op (b := false) (N + 1) h48 hop, if_neg hbadm, rd_0]
      obtain ⟨y, y1, y2⟩ := hbad hD8 _ _ _ _ _ _ hB1
      rw [y1]
      exact badC ⟨y, rfl, y2⟩
  · obtain ⟨x5, m5, a1, a2, a3, a4, a5, a6, -⟩ := hT0.fail (k := 5) (by decide)
    have hD' : D = 8 := by omega
    rw [e_X11_opens, hM0.2.2.2.1, if_pos (by rw [hD']; rfl), show (5 : Int32) = nI 5 from rfl, a2] at hop
    dsimp only [Option.bind] at hop
    rw [if_neg a6.f.2.1] at hop
    rw [e_X5_bracket, if_neg (show ¬ nI D < (8 : Int32) from nI_nlt (b := 8) (by omega) (by omega)), show (5 : Int32) = nI 5 from rfl, a1]
    dsimp only [Option.bind]
    rw [if_pos (by decide)]
    dsimp only
    rw [if_pos rfl]
    exact badC ⟨x5, rfl, opFail (b := false) (D := D) (B := B) (q := q) hld hi (by omega) h48 hop ((XFr.tt hx).tr (XFr.tt a3) (Nat.le_refl _)) ((f0 D (Nat.le_refl _)).tr (MF.tt a4) (Nat.le_refl _) (Nat.le_refl _) (Nat.le_refl _)) a6 ((a3.1 _ _ (by omega) (by omega)).trans g9) (by omega)⟩
end Pc
