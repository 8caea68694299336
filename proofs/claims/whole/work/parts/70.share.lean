/-! ===== share ===== -/
theorem itr_inv0 {α : Type} {g : α → Nat → α} {P : α → Prop} (h : ∀ a i, P a → P (g a i)) : ∀ d a i, P a → P (itr g d a i) := by
  intro d
  induction d with
  | zero => intro a i ha; exact ha
  | succ d ih => intro a i ha; exact ih _ _ (h a i ha)
def likS (D : Int32) (B : Nat) (c : Int32) : Int64 := itr (fun (y : Int64) i => if c ≤ nI i then (y * ((100 - D).toInt64)) / 100 else (y * D.toInt64) / 100) B 1000000000 0
theorem lik_le {k e : Nat} (hk : k ≤ 1000000000) (he : e ≤ 100) : ∃ k', k' ≤ 1000000000 ∧ (lN k * lN e) / 100 = lN k' := by
  have h1 : k * e ≤ 1000000000 * 100 := Nat.mul_le_mul hk he
  refine ⟨k * e / 100, by omega, ?_⟩
  rw [lN_mul, show (100 : Int64) = lN 100 from rfl, pk_lDiv (by omega) (by omega) (by omega)]
theorem likS_b {d : Nat} (hd : d ≤ 100) (B : Nat) (c : Int32) : ∃ k, k ≤ 1000000000 ∧ likS (nI d) B c = lN k := by
  refine itr_inv0 (P := fun y => ∃ k, k ≤ 1000000000 ∧ y = lN k) ?_ B _ 0 ⟨1000000000, by omega, rfl⟩
  rintro a i ⟨k, hk, rfl⟩
  rw [show (100 : Int32) = nI 100 from rfl, pk_sub hd, nI_l (by omega), nI_l (by omega)]
  split
  · exact lik_le hk (by omega)
  · exact lik_le hk hd
section Share
variable {ld bk : Nat} {L : LD} {x m : St}
def denS (x : St) (ld p : Nat) : Int32 := gI x (ld + 3) (3 * p + 2)
theorem lik_X (hs : RSt ld x) (hl : RLa ld bk L x m) {p B : Nat} (hp : p < L.np) (hB : B ≤ 40) (c : Int32) : f_X4_likely ld (nI p) (nI B) c x = some (likS (denS x ld p) B c, x) := by
  have g : f_X8_get (ld + 1) (nI p) 2 x = some (denS x ld p, x) := getP hs hl hp (j := 2) (by omega)
  rw [e_X4_likely, g]
  dsimp only [Option.bind]
  refine loop_fu (fun n a i => f_X4_likely_19 ld n (nI B) c (denS x ld p) a (nI i) x) _ (fun a => some (a, x)) B (by omega) ?_ ?_ _
  · intro n a
    rw [e_X4_likely_19, if_pos (nI_le (Nat.le_refl _) (by omega))]
  · intro n a i hi
    rw [e_X4_likely_19, if_neg (nI_ge hi (by omega)), nI_1]
    dsimp only [ltt]
    by_cases q : c ≤ nI i
    · rw [if_pos q, if_pos q]
    · rw [if_neg q, if_neg q]
theorem lik_M (hb : RBk bk m) (hl : RLa ld bk L x m) {p B : Nat} (hp : p < L.np) (hB : B ≤ 40) (c : Int32) : f_X11_likelyOf (nI p) (nI B) c m = some (likS (denS x ld p) B c, m) := by
  have h8 := hl.1.1
  have hbk := hb.1
  obtain ⟨-, -, -, k, hk, k1, k2⟩ := hl.2.2.2.2.2.1 p hp
  rw [e_X11_likelyOf, hb.2, show (8 : Int32) = nI 8 from rfl, pk_mul, nI_add, if_pos (inb_nI (by omega) (by omega)), ix_nI (by omega), k2, ← k1]
  dsimp only [ltt]
  refine loop_fu (fun n a i => f_X11_likelyOf_24 n (nI B) c a (denS x ld p) (nI i) m) _ (fun a => some (a, m)) B (by omega) ?_ ?_ _
  · intro n a
    rw [e_X11_likelyOf_24, if_pos (nI_le (Nat.le_refl _) (by omega))]
  · intro n a i hi
    rw [e_X11_likelyOf_24, if_neg (nI_ge hi (by omega)), nI_1]
    dsimp only [ltt]
    by_cases q : c ≤ nI i
    · rw [if_pos q, if_pos q]
    · rw [if_neg q, if_neg q]
def likA (x : St) (ld : Nat) (L : LD) (B : Nat) (c : Int32) : Int64 := itr (fun (s : Int64) p => s + likS (denS x ld p) B c) L.np 0 0
theorem likA_b (hl : RLa ld bk L x m) (B : Nat) (c : Int32) : ∃ k, k ≤ 8000000000 ∧ likA x ld L B c = lN k := by
  have h8 := hl.1.1
  have := itr_inv (g := fun (s : Int64) p => s + likS (denS x ld p) B c) (P := fun i s => ∃ k, k ≤ i * 1000000000 ∧ s = lN k) (N := L.np) (fun a i hi ⟨k, hk, e⟩ => by
    obtain ⟨-, -, -, j, hj, j1, j2⟩ := hl.2.2.2.2.2.1 i hi
    obtain ⟨q, hq, e2⟩ := likS_b hj B c
    refine ⟨k + q, by omega, ?_⟩
    rw [e, denS, j1, e2, lN_add]) L.np 0 0 (by omega) ⟨0, by omega, rfl⟩
  obtain ⟨k, hk, e⟩ := this
  exact ⟨k, by omega, e⟩
def shaS (x : St) (ld : Nat) (L : LD) (p B : Nat) (c : Int32) : Int32 := if likA x ld L B c = 0 then 0 else ((1000 * likS (denS x ld p) B c) / likA x ld L B c).toInt32
theorem share_X (hs : RSt ld x) (hl : RLa ld bk L x m) {p B : Nat} (hp : p < L.np) (hB : B ≤ 40) (c : Int32) : f_X4_shareOf ld (nI p) (nI B) c x = some (shaS x ld L p B c, x) := by
  have h8 := hl.1.1
  have e : f_X4_shareOf ld (nI p) (nI B) c x = (fun y4 => (if 0 < (lg_cmp y4 (0 : Int64)) then ((f_X4_likely ld (nI p) (nI B) c x).bind fun q1 => if y4 = 0 then none else some ((((1000 : Int64) * q1.1) / y4).toInt32, q1.2)) else (some ((0 : Int32), x)))) (likA x ld L B c) := by
    rw [e_X4_shareOf]
    refine loop_fu (fun n a i => f_X4_shareOf_6 ld n (nI p) (nI B) c a (nI i) x) (fun (s : Int64) p => s + likS (denS x ld p) B c) (fun y4 => (if 0 < (lg_cmp y4 (0 : Int64)) then ((f_X4_likely ld (nI p) (nI B) c x).bind fun q1 => if y4 = 0 then none else some ((((1000 : Int64) * q1.1) / y4).toInt32, q1.2)) else (some ((0 : Int32), x)))) L.np (by omega) ?_ ?_ 0
    · intro n a
      rw [e_X4_shareOf_6, hl.1.2.1, if_pos (nI_le (Nat.le_refl _) (by omega))]
    · intro n a i hi
      rw [e_X4_shareOf_6, hl.1.2.1, if_neg (nI_ge hi (by omega)), nI_1, lik_X hs hl hi hB]
      rfl
  rw [e]
  dsimp only
  obtain ⟨k, hk, ek⟩ := likA_b hl B c
  rw [lik_X hs hl hp hB, shaS, ek]
  dsimp only [Option.bind]
  by_cases c0 : k = 0
  · subst c0
    rw [if_neg (by decide +kernel), if_pos (by decide +kernel)]
  · have z : ¬ lN k = 0 := fun q => c0 ((pk_lEQ (b := 0) (by omega) (by omega)).mp q)
    have z2 : 0 < lg_cmp (lN k) 0 := by
      rw [lg_cmp, if_pos (show lN k > 0 from (pk_lLT (a := 0) (by omega) (by omega)).mpr (by omega))]
      decide
    rw [if_pos z2, if_neg z, if_neg z]
theorem share_M (hb : RBk bk m) (hl : RLa ld bk L x m) {p B : Nat} (hp : p < L.np) (hB : B ≤ 40) (c : Int32) : f_X11_share_35 FU (nI p) (nI B) c 0 0 m = some (shaS x ld L p B c, m) := by
  have h8 := hl.1.1
  have e : f_X11_share_35 FU (nI p) (nI B) c 0 0 m = (fun y4 => (if (lg_cmp y4 (0 : Int64)) = 0 then (some ((0 : Int32), m)) else ((f_X11_likelyOf (nI p) (nI B) c m).bind fun q1 => if y4 = 0 then none else some ((((1000 : Int64) * q1.1) / y4).toInt32, q1.2)))) (likA x ld L B c) := by
    refine loop_fu (fun n a i => f_X11_share_35 n (nI p) (nI B) c a (nI i) m) (fun (s : Int64) p => s + likS (denS x ld p) B c) (fun y4 => (if (lg_cmp y4 (0 : Int64)) = 0 then (some ((0 : Int32), m)) else ((f_X11_likelyOf (nI p) (nI B) c m).bind fun q1 => if y4 = 0 then none else some ((((1000 : Int64) * q1.1) / y4).toInt32, q1.2)))) L.np (by omega) ?_ ?_ 0
    · intro n a
      rw [e_X11_share_35, hb.2, if_pos (bk_ix hb.1).1, (bk_ix hb.1).2, hl.1.2.2, if_pos (nI_le (Nat.le_refl _) (by omega))]
    · intro n a i hi
      rw [e_X11_share_35, hb.2, if_pos (bk_ix hb.1).1, (bk_ix hb.1).2, hl.1.2.2, if_neg (nI_ge hi (by omega)), nI_1, lik_M hb hl hi hB]
      rfl
  rw [e]
  dsimp only
  obtain ⟨k, hk, ek⟩ := likA_b hl B c
  rw [lik_M hb hl hp hB, shaS, ek]
  dsimp only [Option.bind]
  by_cases c0 : k = 0
  · subst c0
    rw [if_pos (by decide +kernel), if_pos (by decide +kernel)]
  · have z : ¬ lN k = 0 := fun q => c0 ((pk_lEQ (b := 0) (by omega) (by omega)).mp q)
    rw [if_neg (fun q => c0 ((l_cmp0 (by omega)).mp q)), if_neg z, if_neg z]
end Share
theorem step27 (LW : Nat → Nat → LD → St → St → Prop) : Step_27 (RelOf (RelB LW)) := by
  intro a b c x m h
  obtain ⟨hA, ld, bk, L, s1, hb, hla, hw, hd⟩ := id h
  have h8 := hla.1.1
  have done : ∀ r, f_X10_share a b c x = some (r, x) → f_X11_share a b c m = some (r, m) → ∃ r σx' σm', f_X10_share a b c x = some (r, σx') ∧ f_X11_share a b c m = some (r, σm') ∧ RelOf (RelB LW) σx' σm' := fun r h1 h2 => ⟨r, x, m, h1, h2, h⟩
  have X := e_X10_share a b c x
  have M := e_X11_share a b c m
  rw [isP_X s1 hla] at X
  rw [isP_M hb hla] at M
  dsimp only [Option.bind, ltt] at X M
  cases hp : inb a L.np
  · rw [hp, if_pos (by decide)] at X M
    exact done _ X M
  · obtain ⟨p, hp', rfl⟩ := inb_of hp (by omega)
    rw [hp, if_neg (by decide)] at X M
    rw [e_X11_is] at M
    by_cases c0 : b < 0
    · rw [if_pos c0] at X M
      exact done _ X M
    rw [if_neg c0] at X M
    by_cases c1 : (40 : Int32) < b
    · rw [if_pos c1] at X M
      exact done _ X M
    rw [if_neg c1] at X M
    dsimp only at M
    rw [if_neg (by decide), e_X11_is] at M
    by_cases c2 : c < 0
    · rw [if_pos c2] at X M
      exact done _ X M
    rw [if_neg c2] at X M
    by_cases c3 : b < c
    · rw [if_neg (Int32.not_le.mpr c3)] at X
      rw [if_pos c3] at M
      exact done _ X M
    rw [if_pos (Int32.not_lt.mp c3), s1.1, if_pos (landB_of s1.2.1)] at X
    rw [if_neg c3] at M
    dsimp only at M
    rw [if_neg (by decide)] at M
    obtain ⟨B, hB, rfl⟩ := nI_of c0
    have hB40 : B ≤ 40 := by
      rcases Nat.lt_or_ge 40 B with q | q
      · exact absurd (nI_lt (a := 40) q hB) c1
      · exact q
    rw [share_X s1 hla hp' hB40] at X
    rw [share_M hb hla hp' hB40] at M
    exact done _ X M
