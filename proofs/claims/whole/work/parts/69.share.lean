/-! ===== signed, share ===== -/
theorem itr_or (f : Nat → Int32) : ∀ d a i, itr (fun a i => a ||| f i) d a i = a ||| itr (fun a i => a ||| f i) d 0 i := by
  intro d
  induction d with
  | zero => intro a i; simp [itr]
  | succ d ih =>
    intro a i
    rw [itr, itr, ih (a ||| f i), ih (0 ||| f i), Int32.zero_or, Int32.or_assoc]
theorem itr_inv {α : Type} {g : α → Nat → α} {P : Nat → α → Prop} {N : Nat} (h : ∀ a i, i < N → P i a → P (i + 1) (g a i)) : ∀ d a i, i + d ≤ N → P i a → P (i + d) (itr g d a i) := by
  intro d
  induction d with
  | zero => intro a i _ ha; exact ha
  | succ d ih =>
    intro a i hi ha
    have := ih (g a i) (i + 1) (by omega) (h a i (by omega) ha)
    rw [show i + 1 + d = i + (d + 1) by omega] at this
    exact this
theorem ringG {g gn lim w mn : Nat} {sz : Int32} {x m : St} (hr : RRing g gn lim w sz mn x m) (hg : gn = g + 1) (hlen : lnX gn = lim * w) (e0 : gI x g 0 = nI lim) (e1 : gI x g 1 = nI w) (hl : lim ≤ 1000) (hw : w ≤ 100) {n k c : Nat} (hn : n < 2 ^ 31) (hz : sz = nI n) (hk : k < n) (hc : c < w) : f_X7_get g (nI k) (nI c) x = some (gI m mn (w * k + c), x) := by
  rcases ring_X hr hg hlen e0 e1 hl hw (nI k) (nI c) with ⟨-, -, k', c', h1, h2, h3, h4, e⟩ | ⟨hno, -⟩
  · rw [hz, nI_clamp hn] at h1
    rw [(nI_eq (by omega) (by omega)).mp h3, (nI_eq (by omega) (by omega)).mp h4] at e ⊢
    exact e
  · exfalso
    rw [hz, nI_clamp hn, inb_nI hk hn, inb_nI hc (by omega)] at hno
    rcases hno with h | h <;> cases h
def sgS (m : St) (t : Nat) (b : Int32) (i : Nat) : Int32 := if gI m 42 (4 * i + 1) = nI t then (if b < gI m 42 (4 * i + 2) then 0 else (if gI m 42 (4 * i + 3) < b then 0 else (1 : Int32) <<< (gI m 42 (4 * i) &&& 31))) else 0
def sgB (x : St) (t : Nat) (b : Int32) (p : Nat) : Int32 := if hasT x p t = true then (if b < gI x 10 (12 * p + t) then 0 else (if gI x 6 1 < b then 0 else (1 : Int32) <<< (nI p &&& 31))) else 0
section Sign
variable {ld bk : Nat} {L : LD} {x m : St}
theorem sgB_X (hs : RSt ld x) (hl : RLa ld bk L x m) (hd : RDy L x m) {t : Nat} (ht : t < L.nt) (b a : Int32) : f_X2_signers_83 FU (nI t) b a 0 x = some (itr (fun a i => a ||| sgB x t b i) L.np a 0, x) := by
  have h8 := hl.1.1
  have h12 := hl.2.1.1
  refine loop_fu (fun n a i => f_X2_signers_83 n (nI t) b a (nI i) x) _ (fun a => some (a, x)) L.np (by omega) ?_ ?_ a
  · intro n a
    rw [e_X2_signers_83]
    dsimp only [ltt]
    rw [hs.1, if_pos (landB_of hs.2.1), hl.1.2.1, if_pos (nI_le (Nat.le_refl _) (by omega))]
  · intro n a i hi
    rw [e_X2_signers_83]
    dsimp only [ltt]
    rw [hs.1, if_pos (landB_of hs.2.1), hl.1.2.1, if_neg (nI_ge hi (by omega)), bears_X hs hl hd hi ht, nI_1, sgB]
    dsimp only [Option.bind]
    cases hasT x i t
    · rw [if_pos (by decide), if_neg (by decide), Int32.or_zero]
    · rw [if_neg (by decide), if_pos rfl, show (12 : Int32) = nI 12 from rfl, pk_mul, nI_add, if_pos (inb_nI (by omega) (by omega)), ix_nI (by omega), Nat.mul_comm i 12]
      by_cases c1 : b < gI x 10 (12 * i + t)
      · rw [if_pos c1, if_pos c1, Int32.or_zero]
      · rw [if_neg c1, if_neg c1]
        by_cases c2 : gI x 6 1 < b
        · rw [if_pos c2, if_pos c2, Int32.or_zero]
        · rw [if_neg c2, if_neg c2]
theorem sgB_M (hb : RBk bk m) (hl : RLa ld bk L x m) (hd : RDy L x m) {t : Nat} (ht : t < L.nt) (b : Int32) : f_X11_signed_26 FU (nI t) b 0 0 m = f_X11_signed_94 FU (nI t) b (itr (fun a i => a ||| sgB x t b i) L.np 0 0) 0 m := by
  have h8 := hl.1.1
  have h12 := hl.2.1.1
  obtain ⟨y, hy, y1, y2⟩ := hd.1
  refine loop_fu (fun n a i => f_X11_signed_26 n (nI t) b a (nI i) m) _ (fun a => f_X11_signed_94 FU (nI t) b a 0 m) L.np (by omega) ?_ ?_ 0
  · intro n a
    rw [e_X11_signed_26, hb.2, if_pos (bk_ix hb.1).1, (bk_ix hb.1).2, hl.1.2.2, if_pos (nI_le (Nat.le_refl _) (by omega))]
  · intro n a i hi
    obtain ⟨s, -, s1, s2⟩ := hd.2.2.2.2.2.1 i t hi ht
    rw [e_X11_signed_26, hb.2, if_pos (bk_ix hb.1).1, (bk_ix hb.1).2, hl.1.2.2, if_neg (nI_ge hi (by omega)), hasT_M hl hd (by omega) (by omega), nI_1, sgB, y1, s1]
    dsimp only [Option.bind, ltt]
    cases hasT x i t
    · rw [if_pos (by decide), if_neg (by decide)]
    · rw [if_neg (by decide), if_pos rfl, show (12 : Int32) = nI 12 from rfl, pk_mul, nI_add, if_pos (inb_nI (by omega) (by omega)), ix_nI (by omega), s2, y2]
      by_cases c1 : b < nI s
      · rw [if_pos c1, if_pos c1]
      · rw [if_neg c1, if_neg c1]
        by_cases c2 : nI y < b
        · rw [if_pos c2, if_pos c2]
        · rw [if_neg c2, if_neg c2]
theorem sgS_X (hs : RSt ld x) (hd : RDy L x m) {n : Nat} (hn : n ≤ 80) (en : gI m 0 64 = nI n) {t : Nat} (b : Int32) : f_X2_signers (nI t) b x = f_X2_signers_83 FU (nI t) b (itr (fun a i => a ||| sgS m t b i) n 0 0) 0 x := by
  have G : ∀ k c, k < n → c < 4 → f_X7_get 13 (nI k) (nI c) x = some (gI m 42 (4 * k + c), x) := fun k c hk hc => ringG hd.2.2.2.2.2.2.2.2 rfl rfl hs.2.2.2.2.2.1.1 hs.2.2.2.2.2.1.2 (by omega) (by omega) (by omega) en hk hc
  have en' : gI x 13 4 = nI n := by
    obtain ⟨n', o, -, -, -, e1, e2, -⟩ := hd.2.2.2.2.2.2.2.2
    rw [e1, ← e2, en]
  rw [e_X2_signers]
  refine loop_fu (fun k a i => f_X2_signers_5 k (nI t) b a (nI i) x) _ (fun a => f_X2_signers_83 FU (nI t) b a 0 x) n (by omega) ?_ ?_ 0
  · intro k a
    rw [e_X2_signers_5, en', if_pos (nI_le (Nat.le_refl _) (by omega))]
  · intro k a i hi
    have G0 : f_X7_get 13 (nI i) 0 x = some (gI m 42 (4 * i), x) := G i 0 hi (by omega)
    have G1 : f_X7_get 13 (nI i) 1 x = some (gI m 42 (4 * i + 1), x) := G i 1 hi (by omega)
    have G2 : f_X7_get 13 (nI i) 2 x = some (gI m 42 (4 * i + 2), x) := G i 2 hi (by omega)
    have G3 : f_X7_get 13 (nI i) 3 x = some (gI m 42 (4 * i + 3), x) := G i 3 hi (by omega)
    rw [e_X2_signers_5, en', if_neg (nI_ge hi (by omega)), G1, nI_1, sgS]
    dsimp only [Option.bind, ltt]
    by_cases c0 : gI m 42 (4 * i + 1) = nI t
    · rw [if_pos c0, if_pos c0, G2]
      dsimp only
      by_cases c1 : b < gI m 42 (4 * i + 2)
      · rw [if_pos c1, if_pos c1, Int32.or_zero]
      · rw [if_neg c1, if_neg c1, G3]
        dsimp only
        by_cases c2 : gI m 42 (4 * i + 3) < b
        · rw [if_pos c2, if_pos c2, Int32.or_zero]
        · rw [if_neg c2, if_neg c2, G0]
    · rw [if_neg c0, if_neg c0, Int32.or_zero]
theorem sgS_M {n : Nat} (hn : n ≤ 80) (en : gI m 0 64 = nI n) {t : Nat} (b a : Int32) : f_X11_signed_94 FU (nI t) b a 0 m = some (itr (fun a i => a ||| sgS m t b i) n a 0, m) := by
  refine loop_fu (fun k a i => f_X11_signed_94 k (nI t) b a (nI i) m) _ (fun a => some (a, m)) n (by omega) ?_ ?_ a
  · intro k a
    rw [e_X11_signed_94, en, if_pos (nI_le (Nat.le_refl _) (by omega))]
  · intro k a i hi
    have E1 : (4 : Int32) * nI i + 1 = nI (4 * i + 1) := by rw [show (4 : Int32) = nI 4 from rfl, pk_mul, nI_1]
    have E2 : (4 : Int32) * nI i + 2 = nI (4 * i + 2) := by rw [show (4 : Int32) = nI 4 from rfl, pk_mul, show (2 : Int32) = nI 2 from rfl, nI_add]
    have E3 : (4 : Int32) * nI i + 3 = nI (4 * i + 3) := by rw [show (4 : Int32) = nI 4 from rfl, pk_mul, show (3 : Int32) = nI 3 from rfl, nI_add]
    have E0 : (4 : Int32) * nI i = nI (4 * i) := by rw [show (4 : Int32) = nI 4 from rfl, pk_mul]
    rw [e_X11_signed_94, en, if_neg (nI_ge hi (by omega)), E1, E2, E3, E0, nI_1, if_pos (inb_nI (by omega) (by omega)), if_pos (inb_nI (by omega) (by omega)), if_pos (inb_nI (by omega) (by omega)), if_pos (inb_nI (by omega) (by omega)), ix_nI (by omega), ix_nI (by omega), ix_nI (by omega), ix_nI (by omega), sgS]
    dsimp only [ltt]
    by_cases c0 : gI m 42 (4 * i + 1) = nI t
    · rw [if_pos c0, if_pos c0]
      by_cases c1 : b < gI m 42 (4 * i + 2)
      · rw [if_pos c1, if_pos c1]
      · rw [if_neg c1, if_neg c1]
        by_cases c2 : gI m 42 (4 * i + 3) < b
        · rw [if_pos c2, if_pos c2]
        · rw [if_neg c2, if_neg c2]
    · rw [if_neg c0, if_neg c0]
end Sign
theorem step24 (LW : Nat → Nat → LD → St → St → Prop) : Step_24 (RelOf (RelB LW)) := by
  intro a b x m h
  obtain ⟨hA, ld, bk, L, s1, hb, hla, hw, hd⟩ := id h
  have h12 := hla.2.1.1
  obtain ⟨n, o, hn, -, -, -, en, -⟩ := id hd.2.2.2.2.2.2.2.2
  have done : ∀ r r', f_X10_signed a b x = some (r, x) → f_X11_signed a b m = some (r', m) → r = r' → ∃ r σx' σm', f_X10_signed a b x = some (r, σx') ∧ f_X11_signed a b m = some (r, σm') ∧ RelOf (RelB LW) σx' σm' := fun r r' h1 h2 h3 => ⟨r, x, m, h1, by rw [h2, h3], h⟩
  have X := e_X10_signed a b x
  have M := e_X11_signed a b m
  dsimp only [ltt] at X
  rw [s1.1, if_pos (landB_of s1.2.1), holdsT_X hla] at X
  rw [isT_M hb hla] at M
  dsimp only [Option.bind] at X M
  cases hp : inb a L.nt
  · rw [hp, if_pos (by decide)] at X M
    exact done _ _ X M rfl
  · obtain ⟨t, ht, rfl⟩ := inb_of hp (by omega)
    rw [hp, if_neg (by decide)] at X M
    rw [e_X11_is] at M
    by_cases c0 : b < 0
    · rw [if_pos c0] at X M
      dsimp only at M
      exact done _ _ X M rfl
    rw [if_neg c0] at X M
    by_cases c1 : (999 : Int32) < b
    · rw [if_neg (Int32.not_le.mpr c1)] at X
      rw [if_pos c1] at M
      exact done _ _ X M rfl
    rw [if_pos (Int32.not_lt.mp c1), sgS_X s1 hd hn en, sgB_X s1 hla hd ht] at X
    rw [if_neg c1] at M
    dsimp only at X M
    rw [if_neg (by decide), sgB_M hb hla hd ht, sgS_M hn en] at M
    refine done _ _ X M ?_
    rw [itr_or, itr_or (sgS m t b) n (itr _ _ _ _), Int32.or_comm]
