/-! ===== persons, titles, bits, loose letters; loose, loan ===== -/
theorem sh_l : ∀ n, n < 32 → ((nI n &&& 31).toBitVec.smod 32).toNat = n := by decide +kernel
theorem bit_I {c t : Nat} (hc : c < 2 ^ 31) (ht : t < 32) : (nI c >>> (nI t &&& 31)) &&& 1 = bi (c.testBit t) := by
  rw [pk_shrN hc _ t (sh_l t ht), pk_andN (Nat.lt_of_le_of_lt (Nat.div_le_self _ _) (by omega)) 1 (by decide +kernel), Nat.testBit_eq_decide_div_mod_eq]
  have h2 : c / 2 ^ t % 2 < 2 := Nat.mod_lt _ (by omega)
  rw [Nat.pow_one]
  generalize c / 2 ^ t % 2 = w at h2
  have : w = 0 ∨ w = 1 := by omega
  rcases this with rfl | rfl <;> rfl
theorem bi_eq1 {b : Bool} : bi b = 1 ↔ b = true := by cases b <;> simp [bi]
section Coat
variable {ld bk : Nat} {L : LD} {x m : St}
theorem isP_X (hs : RSt ld x) (hl : RLa ld bk L x m) (a : Int32) : f_X2_isPerson a x = some (bi (inb a L.np), x) := by
  have h8 := hl.1.1
  rw [e_X2_isPerson]
  dsimp only [ltt]
  rw [hs.1, if_pos (landB_of hs.2.1), holds_X hl.1.2.1 (by omega)]
  dsimp only [Option.bind]
  rw [if_pos (zok_bi _)]
theorem isP_M (hb : RBk bk m) (hl : RLa ld bk L x m) (a : Int32) : f_X11_isPerson a m = some (bi (inb a L.np), m) := by
  have h8 := hl.1.1
  rw [e_X11_isPerson, hb.2, (bk_ix hb.1).2, if_pos (bk_ix hb.1).1, hl.1.2.2, is_M (by omega)]
  dsimp only [Option.bind]
  rw [if_pos (zok_bi _)]
theorem isT_M (hb : RBk bk m) (hl : RLa ld bk L x m) (a : Int32) : f_X11_isTitle a m = some (bi (inb a L.nt), m) := by
  have h8 := hl.2.1.1
  rw [e_X11_isTitle, hb.2, (bk_ix hb.1).2, if_pos (bk_ix hb.1).1, hl.2.1.2.2, is_M (by omega)]
  dsimp only [Option.bind]
  rw [if_pos (zok_bi _)]
theorem holdsP_X (hl : RLa ld bk L x m) (a : Int32) : f_X8_holds (ld + 1) a x = some (bi (inb a L.np), x) := holds_X hl.1.2.1 (by have := hl.1.1; omega)
theorem holdsT_X (hl : RLa ld bk L x m) (a : Int32) : f_X8_holds (ld + 4) a x = some (bi (inb a L.nt), x) := holds_X hl.2.1.2.1 (by have := hl.2.1.1; omega)
theorem two_nt (hl : RLa ld bk L x m) {c : Nat} (hc : c < 2 ^ L.nt) : c < 4096 := by
  have h : 2 ^ L.nt ≤ 2 ^ 12 := Nat.pow_le_pow_right (by omega) hl.2.1.1
  exact Nat.lt_of_lt_of_le hc h
/-- has a person a title? -/
def hasT (x : St) (p t : Nat) : Bool := (gI x 7 p).toNatClampNeg.testBit t
theorem coat_c (hl : RLa ld bk L x m) (hd : RDy L x m) {p : Nat} (hp : p < 8) : ∃ c, c < 2 ^ L.nt ∧ c < 4096 ∧ gI x 7 p = nI c ∧ gI m 35 p = nI c ∧ ∀ t, hasT x p t = c.testBit t := by
  obtain ⟨c, h1, -, h2, h3⟩ := hd.2.2.2.1 p hp
  have h4 := two_nt hl h1
  exact ⟨c, h1, h4, h2, h3, fun t => by rw [hasT, h2, nI_clamp (by omega)]⟩
theorem bears_X (hs : RSt ld x) (hl : RLa ld bk L x m) (hd : RDy L x m) {p t : Nat} (hp : p < L.np) (ht : t < L.nt) : f_X2_bears (nI p) (nI t) x = some (bi (hasT x p t), x) := by
  have h8 := hl.1.1
  have h12 := hl.2.1.1
  obtain ⟨c, -, hc, e1, -, e3⟩ := coat_c hl hd (p := p) (by omega)
  rw [e_X2_bears]
  dsimp only [ltt]
  rw [hs.1, if_pos (landB_of hs.2.1), holdsP_X hl, inb_nI hp (by omega)]
  dsimp only [Option.bind]
  rw [if_neg (by decide), hs.1, if_pos (landB_of hs.2.1), holdsT_X hl, inb_nI ht (by omega)]
  dsimp only [Option.bind]
  rw [if_neg (by decide), if_pos (inb_nI (by omega) (by omega)), ix_nI (by omega), e1, bit_I (by omega) (by omega), e3]
  cases c.testBit t <;> rfl
theorem bears_no (hs : RSt ld x) (hl : RLa ld bk L x m) {a b : Int32} (h : inb a L.np = false ∨ inb b L.nt = false) : f_X2_bears a b x = some (0, x) := by
  rw [e_X2_bears]
  dsimp only [ltt]
  rw [hs.1, if_pos (landB_of hs.2.1), holdsP_X hl]
  dsimp only [Option.bind]
  cases ha : inb a L.np
  · rw [if_pos (by decide)]
  · rw [if_neg (by decide), hs.1, if_pos (landB_of hs.2.1), holdsT_X hl]
    dsimp only [Option.bind]
    rcases h with h | h
    · rw [h] at ha; cases ha
    · rw [h, if_pos (by decide)]
theorem lacks_X (hs : RSt ld x) (hl : RLa ld bk L x m) (hd : RDy L x m) {p t : Nat} (hp : p < L.np) (ht : t < L.nt) : f_X2_lacks (nI p) (nI t) x = some (bi (!hasT x p t), x) := by
  have h8 := hl.1.1
  have h12 := hl.2.1.1
  rw [e_X2_lacks]
  dsimp only [ltt]
  rw [hs.1, if_pos (landB_of hs.2.1), holdsP_X hl, inb_nI hp (by omega)]
  dsimp only [Option.bind]
  rw [if_neg (by decide), hs.1, if_pos (landB_of hs.2.1), holdsT_X hl, inb_nI ht (by omega)]
  dsimp only [Option.bind]
  rw [if_neg (by decide), bears_X hs hl hd hp ht]
  dsimp only [Option.bind]
  cases hasT x p t <;> rfl
theorem lacks_no (hs : RSt ld x) (hl : RLa ld bk L x m) {a b : Int32} (h : inb a L.np = false ∨ inb b L.nt = false) : f_X2_lacks a b x = some (0, x) := by
  rw [e_X2_lacks]
  dsimp only [ltt]
  rw [hs.1, if_pos (landB_of hs.2.1), holdsP_X hl]
  dsimp only [Option.bind]
  cases ha : inb a L.np
  · rw [if_pos (by decide)]
  · rw [if_neg (by decide), hs.1, if_pos (landB_of hs.2.1), holdsT_X hl]
    dsimp only [Option.bind]
    rcases h with h | h
    · rw [h] at ha; cases ha
    · rw [h, if_pos (by decide)]
theorem hasT_M (hl : RLa ld bk L x m) (hd : RDy L x m) {p t : Nat} (hp : p < 8) (ht : t < 32) : f_X11_hasTitle (nI p) (nI t) m = some (bi (hasT x p t), m) := by
  obtain ⟨c, -, hc, -, e2, e3⟩ := coat_c hl hd hp
  rw [e_X11_hasTitle, if_pos (inb_nI (by omega) (by omega)), ix_nI (by omega), e2, bit_I (by omega) ht, e3]
  cases c.testBit t <;> rfl
theorem count_X {r k : Nat} (hr : r ≤ 8) (hk : k < 26) : f_X2_count (nI r) (nI k) x = some (gI x 8 (26 * r + k), x) := by
  rw [e_X2_count, if_neg (nI_pos (by omega)), if_neg (show ¬ (8 : Int32) < nI r from nI_nlt (a := 8) (by omega) (by omega)), if_neg (nI_pos (by omega)), if_neg (show ¬ (26 : Int32) ≤ nI k from nI_ge (b := 26) hk (by omega)), show (26 : Int32) = nI 26 from rfl, pk_mul, nI_add, if_pos (inb_nI (by omega) (by omega)), ix_nI (by omega), Nat.mul_comm r 26]
end Coat
theorem nI_ne1 {k : Nat} (hk : k < 2 ^ 31) : ¬ nI k = -1 := fun q => by
  have := nI_pos (n := k) hk
  rw [q] at this
  exact this (by decide)
theorem step9 (LW : Nat → Nat → LD → St → St → Prop) : Step_9 (RelOf (RelB LW)) := by
  intro a b x m h
  obtain ⟨hA, ld, bk, L, s1, hb, hla, hw, hd⟩ := id h
  have h8 := hla.1.1
  have done : ∀ r r', f_X10_loose a b x = some (r, x) → f_X11_loose a b m = some (r', m) → r = r' → ∃ r σx' σm', f_X10_loose a b x = some (r, σx') ∧ f_X11_loose a b m = some (r, σm') ∧ RelOf (RelB LW) σx' σm' := fun r r' h1 h2 h3 => ⟨r, x, m, h1, by rw [h2, h3], h⟩
  rcases letter_cases b x m with ⟨k, hk, rfl, e1, e2⟩ | ⟨e1, e2⟩
  · have em : ∀ r : Nat, r ≤ 8 → (26 : Int32) * nI r + nI (97 + k) - 97 = nI (26 * r + k) := by
      intro r hr
      rw [show (26 : Int32) = nI 26 from rfl, pk_mul, nI_add]
      have := pk_sub (a := 26 * r + (97 + k)) (b := 97) (by omega)
      rw [show 26 * r + (97 + k) - 97 = 26 * r + k by omega] at this
      exact this
    have fin : ∀ r : Nat, r ≤ 8 → gI x 8 (26 * r + k) = gI m 36 (26 * r + k) := by
      intro r hr
      obtain ⟨c, -, g1, g2⟩ := hd.2.2.2.2.1 (26 * r + k) (by omega)
      rw [g1, g2]
    by_cases ca : a = -1
    · subst ca
      have e8 := em 8 (by omega)
      have ec := count_X (x := x) (r := 8) (k := k) (by omega) hk
      rw [show nI 8 = (8 : Int32) from rfl] at e8 ec
      refine done _ _ ?_ ?_ (fin 8 (by omega))
      · rw [e_X10_loose, e1]
        dsimp only [Option.bind]
        rw [if_neg (nI_ne1 (by omega)), if_pos rfl, if_pos rfl, ec]
      · rw [e_X11_loose, e2]
        dsimp only [Option.bind]
        rw [if_neg (by decide), if_pos rfl, if_pos rfl, e8, if_pos (inb_nI (by omega) (by omega)), ix_nI (by omega)]
    · cases hp : inb a L.np
      · refine done (-1) (-1) ?_ ?_ rfl
        · rw [e_X10_loose, e1]
          dsimp only [Option.bind]
          rw [if_neg (nI_ne1 (by omega)), if_neg ca, isP_X s1 hla, hp]
          rfl
        · rw [e_X11_loose, e2]
          dsimp only [Option.bind]
          rw [if_neg (by decide), if_neg ca, isP_M hb hla, hp]
          rfl
      · obtain ⟨p, hp', rfl⟩ := inb_of hp (by omega)
        refine done _ _ ?_ ?_ (fin p (by omega))
        · rw [e_X10_loose, e1]
          dsimp only [Option.bind]
          rw [if_neg (nI_ne1 (by omega)), if_neg ca, isP_X s1 hla, hp]
          dsimp only [Option.bind]
          rw [if_neg (by decide), if_neg ca, count_X (by omega) hk]
        · rw [e_X11_loose, e2]
          dsimp only [Option.bind]
          rw [if_neg (by decide), if_neg ca, isP_M hb hla, hp]
          dsimp only [Option.bind]
          rw [if_neg (by decide), if_neg ca, em p (by omega), if_pos (inb_nI (by omega) (by omega)), ix_nI (by omega)]
  · refine done (-1) (-1) ?_ ?_ rfl
    · rw [e_X10_loose, e1]; rfl
    · rw [e_X11_loose, e2]; rfl
