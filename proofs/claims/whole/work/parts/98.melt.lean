/-! ===== melt, drown ===== -/
section Melt
variable {ld bk : Nat} {L : LD} {x m : St}
theorem K.bul (h : K ld bk L x m) {c v : Nat} (hc : c < 30) (h1 : gI x 6 3 = nI c) (hv1 : 1 ≤ v) (hv2 : v ≤ 65535) : K ld bk L (sI (sI x 9 c (nI v)) 6 3 (nI (c + 1))) (sI (sI m 40 c (nI v)) 0 60 (nI (c + 1))) := by
  have hx : ∀ o k, o ≠ 9 → ¬ (o = 6 ∧ k = 3) → gI (sI (sI x 9 c (nI v)) 6 3 (nI (c + 1))) o k = gI x o k := fun o k e1 e2 => by rw [gI_sI, if_neg e2, gI_sI, if_neg (fun q => e1 q.1)]
  have hm : ∀ o k, o ≠ 40 → ¬ (o = 0 ∧ k = 60) → gI (sI (sI m 40 c (nI v)) 0 60 (nI (c + 1))) o k = gI m o k := fun o k e1 e2 => by rw [gI_sI, if_neg e2, gI_sI, if_neg (fun q => e1 q.1)]
  obtain ⟨d1, d2, d3, d4, d5, d6, d7, d8, d9⟩ := h.2.2.2.2.2
  refine h.dy ((DyX.sI rfl).tr (DyX.sI rfl)) ((DyM.sI rfl).tr (DyM.sI rfl)) ⟨?_, ?_, ?_, fun p hp => ?_, fun i hi => ?_, fun p t hp ht => ?_, ?_, ?_, ?_⟩
  · rw [hx _ _ (by decide) (by decide), hm _ _ (by decide) (by decide)]; exact d1
  · rw [hx _ _ (by decide) (by decide), hm _ _ (by decide) (by decide)]; exact d2
  · refine ⟨c + 1, by omega, by rw [gI_sI, if_pos ⟨rfl, rfl⟩], by rw [gI_sI, if_pos ⟨rfl, rfl⟩], fun i hi => ?_⟩
    obtain ⟨c', hc', e1, e2, e3⟩ := d3
    have : c' = c := (nI_eq (by omega) (by omega)).mp (by rw [← e1, h1])
    subst this
    by_cases e : i = c'
    · exact ⟨v, hv1, hv2, by rw [gI_sI, if_neg (by omega), gI_sI, if_pos ⟨rfl, e⟩], by rw [gI_sI, if_neg (by omega), gI_sI, if_pos ⟨rfl, e⟩]⟩
    · obtain ⟨w, w1, w2, w3, w4⟩ := e3 i (by omega)
      exact ⟨w, w1, w2, by rw [gI_sI, if_neg (by omega), gI_sI, if_neg (fun q => e q.2)]; exact w3, by rw [gI_sI, if_neg (by omega), gI_sI, if_neg (fun q => e q.2)]; exact w4⟩
  · rw [hx _ _ (by decide) (by omega), hm _ _ (by decide) (by omega)]; exact d4 p hp
  · rw [hx _ _ (by decide) (by omega), hm _ _ (by decide) (by omega)]; exact d5 i hi
  · rw [hx _ _ (by decide) (by omega), hm _ _ (by decide) (by omega)]; exact d6 p t hp ht
  · rw [hx 21 4 (by decide) (by decide), hm 0 56 (by decide) (by decide)]
    obtain ⟨n, hn, e1, e2, e3⟩ := d7
    exact ⟨n, hn, e1, e2, fun k hk => by rw [hx 23 _ (by decide) (by omega), hx 23 _ (by decide) (by omega), hx 23 _ (by decide) (by omega), hm 37 _ (by decide) (by omega), hm 38 _ (by decide) (by omega), hm 39 _ (by decide) (by omega)]; exact e3 k hk⟩
  · exact d8.c (hx _ _ (by decide) (by decide)) (hx _ _ (by decide) (by decide)) (hm _ _ (by decide) (by decide)) (fun k => hx _ _ (by decide) (by omega)) (fun k => hm _ _ (by decide) (by omega))
  · exact d9.c (hx _ _ (by decide) (by decide)) (hx _ _ (by decide) (by decide)) (hm _ _ (by decide) (by decide)) (fun k => hx _ _ (by decide) (by omega)) (fun k => hm _ _ (by decide) (by omega))
/-- a field of the year or of the river alone -/
theorem K.yr (h : K ld bk L x m) {y r : Nat} (hy : y ≤ 999) (hr : r < 16777216) {x' m' : St} (hx : ∀ o k, ¬ (o = 6 ∧ (k = 1 ∨ k = 2)) → gI x' o k = gI x o k) (gr : ∀ o k, gR x' o k = gR x o k) (gl : ∀ o k, gL x' o k = gL x o k) (hm : ∀ o k, ¬ (o = 0 ∧ (k = 52 ∨ k = 55)) → gI m' o k = gI m o k) (gl' : ∀ o k, gL m' o k = gL m o k) (e1 : gI x' 6 1 = nI y) (e2 : gI m' 0 52 = nI y) (e3 : gI x' 6 2 = nI r) (e4 : gI m' 0 55 = nI r) : K ld bk L x' m' := by
  have dx : DyX x x' := ⟨fun o k e => hx o k (fun q => by rcases q with ⟨q1, q2 | q2⟩ <;> rw [q1, q2] at e <;> cases e), fun o k _ => gr o k, gl _ _⟩
  have dm : DyM m m' := ⟨fun o k e => hm o k (fun q => by rcases q with ⟨q1, q2 | q2⟩ <;> rw [q1, q2] at e <;> cases e), fun o k _ => gl' o k⟩
  obtain ⟨d1, d2, d3, d4, d5, d6, d7, d8, d9⟩ := h.2.2.2.2.2
  refine h.dy dx dm ⟨⟨y, hy, e1, e2⟩, ⟨r, hr, e3, e4⟩, ?_, fun p hp => ?_, fun i hi => ?_, fun p t hp ht => ?_, ?_, ?_, ?_⟩
  · rw [hx 6 3 (by omega), hm 0 60 (by omega)]
    obtain ⟨c, hc, e1, e2, e3⟩ := d3
    exact ⟨c, hc, e1, e2, fun i hi => by rw [hx _ _ (by omega), hm _ _ (by omega)]; exact e3 i hi⟩
  · rw [hx _ _ (by omega), hm _ _ (by omega)]; exact d4 p hp
  · rw [hx _ _ (by omega), hm _ _ (by omega)]; exact d5 i hi
  · rw [hx _ _ (by omega), hm _ _ (by omega)]; exact d6 p t hp ht
  · rw [hx 21 _ (by omega), hm 0 _ (by omega)]
    obtain ⟨n, hn, e1, e2, e3⟩ := d7
    exact ⟨n, hn, e1, e2, fun k hk => by rw [hx 23 _ (by omega), hx 23 _ (by omega), hx 23 _ (by omega), hm 37 _ (by omega), hm 38 _ (by omega), hm 39 _ (by omega)]; exact e3 k hk⟩
  · exact d8.c (hx _ _ (by omega)) (hx _ _ (by omega)) (hm _ _ (by omega)) (fun k => hx _ _ (by omega)) (fun k => hm _ _ (by omega))
  · exact d9.c (hx _ _ (by omega)) (hx _ _ (by omega)) (hm _ _ (by omega)) (fun k => hx _ _ (by omega)) (fun k => hm _ _ (by omega))
theorem ozS_nw (hl : RLa ld bk L x m) {l : List Nat} (h : ∀ c ∈ l, c < 26) : ozS x (ld + 16) 0 l = nI (nw (ozN x ld) l) := by
  induction l with
  | nil => rfl
  | cons c l ih => rw [ozS, ih (fun c hc => h c (List.mem_cons_of_mem _ hc)), Nat.zero_add, (oz_e hl (h c List.mem_cons_self)).1, nI_add, nw, Nat.add_comm]
theorem ozT_nw (hl : RLa ld bk L x m) {t : Nat} (ht : t < L.nt) : ozT x ld t = nI (nw (ozN x ld) (L.tn t)) ∧ 1 ≤ nw (ozN x ld) (L.tn t) ∧ nw (ozN x ld) (L.tn t) ≤ 594 := by
  obtain ⟨p1, p6, hc⟩ := nmT hl ht
  refine ⟨((hl.2.2.2.2.2.2.1 t ht).2.2).trans (ozS_nw hl hc), ?_, ?_⟩
  · rcases e : L.tn t with _ | ⟨c, l⟩
    · rw [e] at p1; exact absurd p1 (by decide)
    · rw [nw]
      have hc2 : c < 26 := hc c (by rw [e]; exact List.mem_cons_self)
      obtain ⟨o, ho1, ho2, e1, e2⟩ := hl.2.2.2.2.2.2.2.2.2 c hc2
      have : ozN x ld c = o := by rw [ozN, e1, nI_clamp (by omega)]
      omega
  · have key : ∀ l : List Nat, (∀ c ∈ l, c < 26) → nw (ozN x ld) l ≤ 99 * l.length := by
      intro l
      induction l with
      | nil => intro _; exact Nat.zero_le _
      | cons c l ih =>
        intro hc
        have := ih (fun c h => hc c (List.mem_cons_of_mem _ h))
        have := (oz_e hl (hc c List.mem_cons_self)).2.2
        rw [nw, List.length_cons]; omega
    have := key _ hc
    omega
theorem bul_push {x x3 : St} {c v : Nat} (h1 : gI x 6 3 = nI c) (h2 : gI x3 6 3 = nI (c + 1)) (hc : c < 30) (hv : gI x3 9 c = nI v) (hv2 : v ≤ 65535) (hs : ∀ n, n < c → gI x3 9 n = gI x 9 n) : bulN x3 = bulN x + v := by
  have e1 : (gI x 6 3).toNatClampNeg = c := by rw [h1, nI_clamp (by omega)]
  have e2 : (gI x3 6 3).toNatClampNeg = c + 1 := by rw [h2, nI_clamp (by omega)]
  have e3 : (gI x3 9 c).toNatClampNeg = v := by rw [hv, nI_clamp (by omega)]
  have key : ∀ n, n ≤ c → btot (fun i => (gI x3 9 i).toNatClampNeg) n = btot (fun i => (gI x 9 i).toNatClampNeg) n := by
    intro n
    induction n with
    | zero => intro _; rw [btot, btot]
    | succ n ih => intro hn; rw [btot, btot, ih (by omega), hs n (by omega)]
  unfold bulN
  rw [e1, e2, btot, key c (Nat.le_refl _), e3]
theorem step19 : Step_19 RelF := by
  intro a b x m h
  obtain ⟨ld, bk, L, k0, rc⟩ := h.op
  obtain ⟨-, hs, hb, hl, hw, hd⟩ := id k0
  have h8 := hl.1.1
  have h12 := hl.2.1.1
  have l16 := land16 hs.2.1
  have rf : ∀ m1, f_X11_refuses 3 m1 = some (-1, sI m1 32 3 (gI m1 32 3 + 1)) := fun m1 => rf_M (k := 3) (by omega) m1
  have X := e_X1_castBullet a b x
  have M := e_X11_melt a b m
  rw [isP_M hb hl] at M
  simp only [rf, Option.bind] at M
  obtain ⟨c, hc, c1, c2, c3⟩ := hd.2.2.1
  have bad : f_X1_castBullet a b x = some (-1, x) → f_X11_melt a b m = some (-1, sI m 32 3 (gI m 32 3 + 1)) → ∃ r σx' σm', f_X10_melt a b x = some (r, σx') ∧ f_X11_melt a b m = some (r, σm') ∧ RelF σx' σm' := by
    intro q1 q2
    refine ⟨-1, sI x 2 3 (gI x 2 3 + 1), _, ?_, q2, refuseF h (by omega)⟩
    rw [e_X10_melt, q1]
    dsimp only [Option.bind]
    rw [show (3 : Int32) = nI 3 from rfl, cnt_X (by omega)]
  cases hp : inb a L.np
  · rw [hp, if_pos (by decide)] at M
    rw [bears_no hs hl (Or.inl hp)] at X
    exact bad X M
  rw [hp, if_neg (by decide), isT_M hb hl] at M
  dsimp only at M
  cases hq : inb b L.nt
  · rw [hq, if_pos (by decide)] at M
    rw [bears_no hs hl (Or.inr hq)] at X
    exact bad X M
  rw [hq, if_neg (by decide)] at M
  obtain ⟨p, hp', rfl⟩ := inb_of hp (by omega)
  obtain ⟨t, ht, rfl⟩ := inb_of hq (by omega)
  rw [hasT_M hl hd (by omega) (by omega)] at M
  rw [bears_X hs hl hd hp' ht] at X
  dsimp only [Option.bind] at X M
  cases hh : hasT x p t
  · rw [hh, if_pos (by decide)] at X M
    exact bad X M
  rw [hh, if_neg (by decide)] at X M
  rw [c1] at X
  rw [c2] at M
  by_cases cc : c = 30
  · rw [if_neg (show ¬ nI c < (30 : Int32) from nI_nlt (b := 30) (by omega) (by omega))] at X
    rw [if_pos (show nI c = (30 : Int32) by rw [cc]; rfl)] at M
    exact bad X M
  rw [if_pos (show nI c < (30 : Int32) from nI_lt (b := 30) (by omega) (by omega))] at X
  rw [if_neg (show ¬ nI c = (30 : Int32) from fun q => by have := (nI_eq (b := 30) (by omega) (by omega)).mp q; omega)] at M
  obtain ⟨o1, o2, o3⟩ := ozT_nw hl ht
  obtain ⟨x1, m1, e1, e2, k1, cn, c7, tw, fx, fm⟩ := goB k0 hp' ht hh
  obtain ⟨-, hs1, hb1, hl1, hw1, hd1⟩ := id k1
  have g63 : gI x1 6 3 = nI c := by rw [fx 6 3 (by decide) (by decide) (by decide)]; exact c1
  have g60 : gI m1 0 60 = nI c := by rw [fm 0 60 (by decide) (by decide) (by decide)]; exact c2
  have oz1 : ozN x1 ld = ozN x ld := funext fun k => by rw [ozN, ozN, fx _ k (by omega) (by omega) (by omega)]
  have k2 := k1.bul (c := c) (v := nw (ozN x ld) (L.tn t)) (by omega) g63 o2 (by omega)
  obtain ⟨-, hs2, hb2, hl2, hw2, hd2⟩ := id k2
  obtain ⟨x3, m3, e5, e6, k3, fx3, fm3⟩ := noteB k2 7 (nI p) (-1) (nI (nw (ozN x ld) (L.tn t)))
  dsimp only [ltt] at X
  rw [hs.1, if_pos (landB_of hs.2.1), e_X4_titleOunces, getT1 hs hl ht, o1] at X
  dsimp only [Option.bind] at X
  rw [e1] at X
  dsimp only at X
  rw [g63, if_pos (inb_nI (by omega) (by omega)), ix_nI (by omega), gI_sI, if_neg (by omega), g63, nI_1, e5] at X
  dsimp only at X
  rw [e2] at M
  dsimp only at M
  have ot1 : ozT x1 ld t = nI (nw (ozN x ld) (L.tn t)) := by rw [(ozT_nw hl1 ht).1, oz1]
  rw [ozT_M hb1 hl1 ht, ot1, g60] at M
  dsimp only at M
  rw [if_pos (inb_nI (by omega) (by omega)), ix_nI (by omega)] at M
  dsimp only [ltt] at M
  rw [gI_sI, if_neg (by omega), g60, nI_1] at M
  have oz2 : ozN (sI (sI x1 9 c (nI (nw (ozN x ld) (L.tn t)))) 6 3 (nI (c + 1))) ld = ozN x ld := funext fun k => by
    rw [← oz1, ozN, ozN, gI_sI, if_neg (by omega), gI_sI, if_neg (by omega)]
  have ot2 : ozT (sI (sI x1 9 c (nI (nw (ozN x ld) (L.tn t)))) 6 3 (nI (c + 1))) ld t = nI (nw (ozN x ld) (L.tn t)) := by
    rw [(ozT_nw hl2 ht).1, oz2]
  rw [ozT_M hb2 hl2 ht, ot2] at M
  dsimp only at M
  rw [e6] at M
  dsimp only at M
  have r63 : gI x3 6 3 = nI (c + 1) := by rw [fx3 6 3 (by decide) (by decide), gI_sI, if_pos ⟨rfl, rfl⟩]
  have r60 : gI m3 0 60 = nI (c + 1) := by rw [fm3 0 60 (by decide) (by decide), gI_sI, if_pos ⟨rfl, rfl⟩]
  rw [r63] at X
  rw [r60] at M
  have e7 : ∀ k, gI x3 7 k = gI x1 7 k := fun k => by rw [fx3 7 k (by decide) (by omega), gI_sI, if_neg (by omega), gI_sI, if_neg (by omega)]
  have e8 : ∀ k, gI x3 8 k = gI x1 8 k := fun k => by rw [fx3 8 k (by decide) (by omega), gI_sI, if_neg (by omega), gI_sI, if_neg (by omega)]
  have twx : ∀ W, TW W L x3 + nw W (L.tn t) = TW W L x := fun W => by rw [TW_c e7 e8, tw]
  refine ⟨nI (c + 1), x3, m3, ?_, M, k3.rel ⟨fun q k h1 h2 h3 => ?_, ?_, ?_⟩⟩
  · rw [e_X10_melt, X]
    dsimp only [Option.bind]
    rw [cnt_ok (nI_ne1 (by omega))]
  · rw [loN, e8, fx 8 _ (by decide) (by decide) (by omega)]; exact rc.1 q k h1 h2 h3
  · have := twx (fun _ => 1)
    have := rc.2.1
    omega
  · have r1 : rivN x3 = rivN x := by rw [rivN, rivN, fx3 6 2 (by decide) (by decide), gI_sI, if_neg (by omega), gI_sI, if_neg (by omega), fx 6 2 (by decide) (by decide) (by decide)]
    have b1 : bulN x3 = bulN x + nw (ozN x ld) (L.tn t) := bul_push c1 r63 (by omega) (by rw [fx3 9 c (by decide) (by omega), gI_sI, if_neg (by omega), gI_sI, if_pos ⟨rfl, rfl⟩]) (by omega) (fun n hn => by rw [fx3 9 n (by decide) (by omega), gI_sI, if_neg (by omega), gI_sI, if_neg (by omega), fx 9 n (by decide) (by decide) (by omega)])
    have o4 : ozN x3 ld = ozN x ld := funext fun k => by
      rw [← oz2, ozN, ozN, fx3 _ k (by omega) (by omega)]
    rw [r1, b1, o4]
    have := twx (ozN x ld)
    have := rc.2.2
    omega
end Melt
