/-! ===== on, the step ===== -/
theorem bt_ge {B : Nat → Nat} {n i : Nat} (hi : i < n) : B i ≤ btot B n := by
  induction n with
  | zero => omega
  | succ n ih =>
    rw [btot]
    by_cases c : i = n
    · rw [c]; omega
    · have := ih (by omega); omega
theorem bt_c {B C : Nat → Nat} {n : Nat} (h : ∀ i, i < n → B i = C i) : btot B n = btot C n := by
  induction n with
  | zero => rw [btot, btot]
  | succ n ih => rw [btot, btot, ih (fun i hi => h i (by omega)), h n (by omega)]
theorem bt_z {B : Nat → Nat} {a : Nat} : ∀ d, (∀ i, a ≤ i → i < a + d → B i = 0) → btot B (a + d) = btot B a := by
  intro d
  induction d with
  | zero => intro _; rfl
  | succ d ih => intro h; rw [show a + (d + 1) = (a + d) + 1 by omega, btot, ih (fun i h1 h2 => h i h1 (by omega)), h (a + d) (by omega) (by omega)]; rfl
theorem bt_add (B C : Nat → Nat) (n : Nat) : btot (fun i => B i + C i) n = btot B n + btot C n := by
  induction n with
  | zero => rw [btot, btot, btot]
  | succ n ih => rw [btot, btot, btot, ih]; omega
theorem lsum_row (W f : Nat → Nat) (r : Nat) : ∀ d, d ≤ 26 → lsum W f (26 * r + d) = lsum W f (26 * r) + lsum W (fun k => f (26 * r + k)) d := by
  intro d
  induction d with
  | zero => intro _; rfl
  | succ d ih =>
    intro hd
    rw [show 26 * r + (d + 1) = (26 * r + d) + 1 by omega, lsum, ih (by omega), lsum, show (26 * r + d) % 26 = d by omega, Nat.mod_eq_of_lt (show d < 26 by omega)]
    omega
theorem lsum_rows (W f : Nat → Nat) (r : Nat) : lsum W f (26 * r) = btot (fun q => lsum W (fun k => f (26 * q + k)) 26) r := by
  induction r with
  | zero => rw [Nat.mul_zero, lsum, btot]
  | succ r ih => rw [show 26 * (r + 1) = 26 * r + 26 by omega, lsum_row W f r 26 (Nat.le_refl _), ih, btot]
theorem csum_b (B : Nat → Nat) (nt : Nat) (f : Nat → Nat) (n : Nat) : csum B nt f n = btot (fun p => bsum B nt (f p)) n := by
  induction n with
  | zero => rw [csum, btot]
  | succ n ih => rw [csum, btot, ih]
theorem lsum_z {W f : Nat → Nat} {n : Nat} (h : ∀ i, i < n → f i = 0) : lsum W f n = 0 := by
  induction n with
  | zero => rfl
  | succ n ih => rw [lsum, ih (fun i hi => h i (by omega)), h n (by omega), Nat.mul_zero]
section OnS
variable {ld bk : Nat} {L : LD} {x m : St} {n0 : Nat}
theorem TW_rest (h : K ld bk L x m) (h0 : RelA n0 x m) (hz : ∀ p k, L.np ≤ p → p < 8 → k < 26 → loN x (26 * p + k) = 0) {σ : St} {nb : Nat} (c : RestC x L nb σ) (hT : ∀ p, p < L.np → tw2 x (2 + 54 * p) < 2 ^ L.nt) (W : Nat → Nat) : TW W L σ = btot (fun p => bsum (fun t => nw W (L.tn t)) L.nt (tw2 x (2 + 54 * p)) + rS x W (4 + 54 * p)) L.np + rS x W (hS L) := by
  obtain ⟨-, hs, hb, hl, hw, hd⟩ := id h
  have h8 := hl.1.1
  have hH : hS L = 2 + 54 * L.np := rfl
  have lo1 : ∀ p k, p < L.np → k < 26 → loN σ (26 * p + k) = tw2 x (4 + 54 * p + 2 * k) := fun p k hp hk => by
    have tl := tw2_le h0 (i := 4 + 54 * p + 2 * k) (by omega)
    rw [loN, c.2.2.2.2.2.1 _ (by omega), if_pos (by omega), show (26 * p + k) / 26 = p by omega, show (26 * p + k) % 26 = k by omega, nI_clamp (by omega)]
  have lo2 : ∀ p k, L.np ≤ p → p < 8 → k < 26 → loN σ (26 * p + k) = 0 := fun p k hp hp8 hk => by
    rw [loN, c.2.2.2.2.2.1 _ (by omega), if_neg (by omega), if_neg (by omega)]; exact hz p k hp hp8 hk
  have lo3 : ∀ k, k < 26 → loN σ (26 * 8 + k) = tw2 x (hS L + 2 * k) := fun k hk => by
    have tl := tw2_le h0 (i := hS L + 2 * k) (by omega)
    rw [loN, c.2.2.2.2.2.1 _ (by omega), if_neg (by omega), if_pos (by omega), show (26 * 8 + k) % 26 = k by omega, nI_clamp (by omega)]
  have e1 : lsum W (loN σ) 234 = btot (fun p => rS x W (4 + 54 * p)) L.np + rS x W (hS L) := by
    rw [show 234 = 26 * 9 from rfl, lsum_rows, btot]
    have a1 : btot (fun q => lsum W (fun k => loN σ (26 * q + k)) 26) 8 = btot (fun p => rS x W (4 + 54 * p)) L.np := by
      rw [show 8 = L.np + (8 - L.np) by omega, bt_z (8 - L.np) (fun i h1 h2 => lsum_z (fun k hk => lo2 i k h1 (by omega) hk))]
      exact bt_c (fun p hp => lsum_c (fun k hk => lo1 p k hp hk))
    rw [a1, lsum_c (g := fun k => tw2 x (hS L + 2 * k)) (fun k hk => lo3 k hk)]
    rfl
  have e2 : csum (fun t => nw W (L.tn t)) L.nt (coatN σ) 8 = btot (fun p => bsum (fun t => nw W (L.tn t)) L.nt (tw2 x (2 + 54 * p))) L.np := by
    rw [csum_b, show 8 = L.np + (8 - L.np) by omega, bt_z (8 - L.np) (fun i h1 h2 => by
      obtain ⟨q, q1, q2, q3, q4⟩ := hd.2.2.2.1 i (by omega)
      have : coatN σ i = 0 := by rw [coatN, c.2.2.2.2.1 i (by omega), if_neg (by omega), q3, q2 h1]; rfl
      rw [this]
      exact bs0 _ _)]
    exact bt_c (fun p hp => by
      have tl := tw2_le h0 (i := 2 + 54 * p) (by omega)
      have : coatN σ p = tw2 x (2 + 54 * p) := by rw [coatN, c.2.2.2.2.1 p (by omega), if_pos hp, nI_clamp (by omega)]
      rw [this])
  unfold TW
  rw [e1, e2, bt_add]
  omega
theorem step34 : Step_34 RelF := by
  intro x m h
  obtain ⟨n, hA⟩ := h.1
  have hn := hA.1.1
  have tn1 := hA.1.2.1
  have tn2 := hA.1.2.2.1
  let x0 := sI x 0 9 0
  let m0 := sI m 0 1 0
  have x0f : ∀ o k, ¬ (o = 0 ∧ k = 9) → gI x0 o k = gI x o k := fun o k e => by show gI (sI x 0 9 0) o k = _; rw [gI_sI, if_neg e]
  have m0f : ∀ o k, ¬ (o = 0 ∧ k = 1) → gI m0 o k = gI m o k := fun o k e => by show gI (sI m 0 1 0) o k = _; rw [gI_sI, if_neg e]
  have h0 : RelA 0 x0 m0 := by
    obtain ⟨⟨t1, t2, t3, t4⟩, ⟨f1, f2⟩, r, s, k, k1, k2, k3, k4⟩ := hA
    refine ⟨⟨by omega, ?_, ?_, fun i hi => ?_⟩, ⟨?_, ?_⟩, fun i hi => ?_, s, k, k1, ?_, ?_, fun i hi => ?_⟩
    · show gI (sI x 0 9 0) 0 9 = nI 0
      rw [gI_sI, if_pos ⟨rfl, rfl⟩]; rfl
    · show gI (sI m 0 1 0) 0 1 = nI 0
      rw [gI_sI, if_pos ⟨rfl, rfl⟩]; rfl
    · rw [x0f 1 i (by omega), m0f 1 i (by omega)]; exact t4 i hi
    · rw [x0f 0 10 (by decide), m0f 0 10 (by decide)]; exact f1
    · rw [x0f 0 11 (by decide), m0f 0 11 (by decide)]; exact f2
    · rw [x0f 2 i (by omega), m0f 32 i (by omega)]; exact r i hi
    · rw [x0f 32 1 (by decide)]; exact k2
    · rw [m0f 0 72 (by decide)]; exact k3
    · rw [x0f 33 i (by omega), m0f 45 i (by omega)]; exact k4 i hi
  have hR : RelF x0 m0 := ⟨⟨0, h0⟩, congrB LWC_o x m x0 m0 (OffX.sI rfl) (OffM.sI rfl) h.2⟩
  obtain ⟨ld, bk, L, k0, rc⟩ := hR.op
  obtain ⟨-, hs, hb, hl, hw, hd⟩ := id k0
  have h8 := hl.1.1
  have h12 := hl.2.1.1
  have hH : hS L = 2 + 54 * L.np := rfl
  have l16 := land16 hs.2.1
  have rf : ∀ m1, f_X11_refuses 5 m1 = some (-1, sI m1 32 5 (gI m1 32 5 + 1)) := fun m1 => rf_M (k := 5) (by omega) m1
  obtain ⟨b, ib, eX⟩ := fits_X k0 h0 hn
  obtain ⟨b', ib', eM⟩ := whole_M k0 h0 hn
  have hbb : b' = b := by
    cases b <;> cases b'
    · rfl
    · have := ib.mpr (ib'.mp rfl); cases this
    · have := ib'.mpr (ib.mp rfl); cases this
    · rfl
  subst hbb
  have X := e_X10_on x
  have M := e_X11_on m
  dsimp only [ltt] at X M
  rw [tn1] at X
  rw [tn2] at M
  have eX' : f_X3_fits 1 (nI n) (sI x 0 9 0) = some (bi b', x0) := eX
  have eM' : f_X11_isWhole (nI n) (sI m 0 1 0) = some (bi b', m0) := eM
  rw [eX'] at X
  rw [eM'] at M
  dsimp only [Option.bind] at X M
  cases b'
  · rw [if_pos (by decide)] at X M
    rw [show (5 : Int32) = nI 5 from rfl, grt_no (by omega)] at X
    rw [rf] at M
    dsimp only at X M
    rw [if_pos (by decide)] at X
    rw [if_pos (by decide)] at M
    exact ⟨0, _, _, X, M, refuseF hR (by omega)⟩
  rw [if_neg (by decide)] at X M
  obtain ⟨o1, o2, o3, o4, o5, o6, o7, o8, o9⟩ := ib.mp rfl
  obtain ⟨x', eR, c, dx⟩ := rest_X k0 h0 o2
  obtain ⟨m', eS, d, dm⟩ := rest_M k0 h0 o2
  have b52 := (tb_e h0 (i := hS L + 52) (by omega)).2.2
  have b53 := tw2_le h0 (i := hS L + 53) (by omega)
  have rv : rivT x0 L < 16777216 := by unfold rivT; omega
  have lett : ∀ p k, p < L.np → k < 26 → tw2 x0 (4 + 54 * p + 2 * k) ≤ 9999 := fun p k hp hk => by
    have a1 := lsum_ge (f := fun k => tw2 x0 (4 + 54 * p + 2 * k)) (n := 26) hk
    have a2 := bt_ge (B := pT x0 L) hp
    have a3 : rS x0 (fun _ => 1) (4 + 54 * p) ≤ pT x0 L p := by unfold pT; omega
    have a4 : LETT x0 L = btot (pT x0 L) L.np + rS x0 (fun _ => 1) (hS L) := rfl
    have a5 : rS x0 (fun _ => 1) (4 + 54 * p) = lsum (fun _ => 1) (fun k => tw2 x0 (4 + 54 * p + 2 * k)) 26 := rfl
    have a6 : (fun k => tw2 x0 (4 + 54 * p + 2 * k)) k = tw2 x0 (4 + 54 * p + 2 * k) := rfl
    omega
  have heap : ∀ k, k < 26 → tw2 x0 (hS L + 2 * k) ≤ 9999 := fun k hk => by
    have a1 := lsum_ge (f := fun k => tw2 x0 (hS L + 2 * k)) (n := 26) hk
    have a4 : LETT x0 L = btot (pT x0 L) L.np + rS x0 (fun _ => 1) (hS L) := rfl
    have a5 : rS x0 (fun _ => 1) (hS L) = lsum (fun _ => 1) (fun k => tw2 x0 (hS L + 2 * k)) 26 := rfl
    have a6 : (fun k => tw2 x0 (hS L + 2 * k)) k = tw2 x0 (hS L + 2 * k) := rfl
    omega
  have k1 : K ld bk L x' m' := k0.dy dx dm (by
    refine ⟨⟨tw2 x0 0, o5, c.1, d.1⟩, ⟨rivT x0 L, rv, c.2.1, d.2.1⟩, ⟨tb x0 (hS L + 55), o2, c.2.2.1, d.2.2.1, fun i hi => ⟨bS x0 L i, o7 i hi, tw2_le h0 (by omega), c.2.2.2.1 i hi, d.2.2.2.1 i hi⟩⟩, fun p hp => ?_, fun j hj => ?_, fun p t hp ht => ?_, ?_, ?_, ?_⟩
    · obtain ⟨q, q1, q2, q3, q4⟩ := hd.2.2.2.1 p hp
      rw [c.2.2.2.2.1 p hp, d.2.2.2.2.1 p hp]
      by_cases w : p < L.np
      · rw [if_pos w, if_pos w]
        exact ⟨_, o6 p w, fun e => by omega, rfl, rfl⟩
      · rw [if_neg w, if_neg w]
        exact ⟨q, q1, q2, q3, q4⟩
    · rw [c.2.2.2.2.2.1 j hj, d.2.2.2.2.2.1 j hj]
      by_cases w : j / 26 < L.np
      · rw [if_pos w, if_pos w]
        exact ⟨_, lett (j / 26) (j % 26) w (by omega), rfl, rfl⟩
      · rw [if_neg w, if_neg w]
        by_cases w2 : j / 26 = 8
        · rw [if_pos w2, if_pos w2]
          exact ⟨_, heap (j % 26) (by omega), rfl, rfl⟩
        · rw [if_neg w2, if_neg w2]
          exact hd.2.2.2.2.1 j hj
    · exact ⟨tw2 x0 0, o5, c.2.2.2.2.2.2.1 _ (by omega), d.2.2.2.2.2.2.1 _ (by omega)⟩
    · exact ⟨0, by omega, c.2.2.2.2.2.2.2.2.2.2.2, d.2.2.2.2.2.2.2.2.2, fun k hk => by omega⟩
    · exact ⟨0, 0, by omega, by omega, fun _ => rfl, c.2.2.2.2.2.2.2.2.2.2.1, d.2.2.2.2.2.2.2.1, c.2.2.2.2.2.2.2.2.2.1, fun k _ hk => by omega⟩
    · exact ⟨0, 0, by omega, by omega, fun _ => rfl, c.2.2.2.2.2.2.2.2.1, d.2.2.2.2.2.2.2.2.1, c.2.2.2.2.2.2.2.1, fun k _ hk => by omega⟩)
  have rc1 : RCon ld L x' := by
    have tw := TW_rest k0 h0 rc.1 c o6
    have ozx : ozN x' ld = ozN x0 ld := funext fun k => by rw [ozN, ozN, dx.1 _ k (by rcases l16 with e | e <;> rw [e] <;> rfl)]
    refine ⟨fun p k h1 h2 h3 => ?_, ?_, ?_⟩
    · rw [loN, c.2.2.2.2.2.1 _ (by omega), if_neg (by omega), if_neg (by omega)]; exact rc.1 p k h1 h2 h3
    · rw [tw (fun _ => 1)]
      have : btot (fun p => bsum (fun t => nw (fun _ => 1) (L.tn t)) L.nt (tw2 x0 (2 + 54 * p)) + rS x0 (fun _ => 1) (4 + 54 * p)) L.np = btot (pT x0 L) L.np := bt_c (fun p _ => by
        unfold pT
        rw [bsum_cg (C := lnN L) (fun t _ => nw_1 (L.tn t))])
      rw [this]
      exact o9
    · rw [ozx, tw (ozN x0 ld)]
      have e1 : rivN x' = rivT x0 L := by rw [rivN, c.2.1, nI_clamp (by omega)]
      have e2 : bulN x' = btot (bS x0 L) (tb x0 (hS L + 55)) := by
        unfold bulN
        rw [c.2.2.1, nI_clamp (by omega)]
        exact bt_c (fun i hi => by
          have := tw2_le h0 (i := hS L + 56 + 2 * i) (by omega)
          rw [c.2.2.2.1 i hi, nI_clamp (by unfold bS; omega)])
      rw [e1, e2]
      have e3 : btot (fun p => bsum (fun t => nw (ozN x0 ld) (L.tn t)) L.nt (tw2 x0 (2 + 54 * p)) + rS x0 (ozN x0 ld) (4 + 54 * p)) L.np = btot (pL x0 ld L) L.np := rfl
      rw [e3]
      have e4 : LEAD x0 ld L (tb x0 (hS L + 55)) = rivT x0 L + btot (bS x0 L) (tb x0 (hS L + 55)) + btot (pL x0 ld L) L.np + rS x0 (ozN x0 ld) (hS L) := rfl
      omega
  refine ⟨1, x', m', X.trans ?_, M.trans eS, k1.rel rc1⟩
  exact eR
end OnS
