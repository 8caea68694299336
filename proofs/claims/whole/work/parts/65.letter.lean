/-! ===== letter, loan ===== -/
theorem letter_M {l : List Nat} (h : ∀ c ∈ l, c < 26) (h6 : l.length ≤ 6) (b : Int32) (σ : St) : f_X11_letter_45 FU b (lN (pk8 l)) 0 (lN (pk8 l)) σ = some ((if inb b l.length = true then nI (l.getD (ix b) 0 + 97) else -1), σ) := by
  have hr : ∀ c ∈ l.reverse, c < 26 := fun c hc => h c (List.mem_reverse.mp hc)
  have hb := pk8r_48 hr (by rw [List.length_reverse]; exact h6)
  have key : ∀ (l' : List Nat) (a n : Nat), (∀ c ∈ l', c < 26) → l'.length ≤ 6 → l'.length < n → f_X11_letter_45 n b (lN (pk8 l)) (nI a) (lN (pk8r l')) σ = (if b < 0 then (some ((-1 : Int32), σ)) else (if b < nI (a + l'.length) then (some (((jlush (lN (pk8 l)) ((8 : Int32) * ((nI (a + l'.length) - (1 : Int32)) - b))) &&& (255 : Int64)).toInt32, σ)) else (some ((-1 : Int32), σ)))) := by
    intro l'
    induction l' with
    | nil =>
      intro a n h h6 hn
      obtain ⟨n, rfl⟩ : ∃ k, n = k + 1 := ⟨n - 1, by omega⟩
      rw [e_X11_letter_45, if_pos ((l_cmp0 (a := pk8r []) (by simp [pk8r])).mpr rfl)]
      rfl
    | cons c l' ih =>
      intro a n h h6 hn
      have hb := pk8r_48 h h6
      simp only [List.length_cons] at h6 hn
      obtain ⟨n, rfl⟩ : ∃ k, n = k + 1 := ⟨n - 1, by omega⟩
      rw [e_X11_letter_45, if_neg (fun q => by have := (l_cmp0 (by omega)).mp q; simp only [pk8r] at this; omega)]
      dsimp only [ltt]
      have hc := h c (List.mem_cons_self)
      rw [jl_8 (by omega), show pk8r (c :: l') / 256 = pk8r l' by simp only [pk8r]; omega, nI_1, ih _ _ (fun c hc => h c (List.mem_cons_of_mem _ hc)) (by omega) (by omega), List.length_cons, show a + 1 + l'.length = a + (l'.length + 1) by omega]
  have k0 := key l.reverse 0 FU hr (by rw [List.length_reverse]; exact h6) (by rw [FU_eq, List.length_reverse]; omega)
  rw [← pk8_r, List.length_reverse, Nat.zero_add, show nI 0 = (0 : Int32) from rfl] at k0
  rw [k0]
  by_cases c0 : b < 0
  · rw [if_pos c0, inb_neg c0, if_neg (by decide)]
  · rw [if_neg c0]
    obtain ⟨j, hj, rfl⟩ := nI_of c0
    by_cases c1 : j < l.length
    · rw [if_pos (nI_lt c1 (by omega)), inb_nI c1 (by omega), if_pos rfl, ix_nI hj]
      have e1 : nI l.length - 1 - nI j = nI (l.length - 1 - j) := by
        have q := pk_sub (a := l.length) (b := 1) (by omega)
        rw [show nI l.length - 1 = nI (l.length - 1) from q, pk_sub (by omega)]
      have hp : pk8 l < 2 ^ 48 := by rw [pk8_r]; exact hb
      rw [e1, jl_8j (by omega) (by omega), l_255 (Nat.lt_of_le_of_lt (Nat.div_le_self _ _) (by omega)), pk8_r, pk8r_at hr, List.getElem?_reverse (by omega), show l.length - 1 - (l.length - 1 - j) = j by omega, List.getElem?_eq_getElem c1, show l.getD j 0 = l[j] by simp [List.getD, c1]]
    · rw [if_neg (nI_nlt (by omega) hj), inb_big hj (by omega), if_neg (by decide)]
def LTR (n : Nat) (nm : Nat → List Nat) (a b : Int32) : Int32 := if inb a n = true then (if inb b (nm (ix a)).length = true then nI ((nm (ix a)).getD (ix b) 0 + 97) else -1) else -1
theorem getD_lt {l : List Nat} (h : ∀ c ∈ l, c < 26) (j : Nat) : l.getD j 0 < 26 := by
  by_cases c : j < l.length
  · rw [show l.getD j 0 = l[j] by simp [List.getD, c]]; exact h _ (List.getElem_mem c)
  · rw [show l.getD j 0 = 0 by simp [List.getD, c]]; omega
theorem letterN_X {r n : Nat} {nm : Nat → List Nat} {σ : St} (e4 : gI σ r 4 = nI n) (hn : n ≤ lnX (r + 1)) (hl : lnX (r + 1) ≤ 100) (hN : ∀ p, p < n → 1 ≤ (nm p).length ∧ (nm p).length ≤ 6 ∧ (∀ c ∈ nm p, c < 26) ∧ gI σ (r + 1) p = nI (pk5 (nm p))) (a b : Int32) : ((f_X8_name r a σ).bind fun q11 => (f_X8_letterOf q11.1 b q11.2).bind fun q12 => if q12.1 = (-1 : Int32) then (some ((-1 : Int32), q12.2)) else (some (q12.1 + (97 : Int32), q12.2))) = some (LTR n nm a b, σ) := by
  rw [e_X8_name, holds_X e4 (by omega)]
  dsimp only [Option.bind]
  rw [LTR]
  cases ha : inb a n
  · rw [if_pos (by decide)]
    dsimp only [Option.bind]
    have := letter_X (l := []) (by simp) (by simp) b σ
    rw [show nI (pk5 []) = (0 : Int32) from rfl] at this
    rw [this, show inb b ([] : List Nat).length = false by
      by_cases c0 : b < 0
      · exact inb_neg c0
      · obtain ⟨j, hj, rfl⟩ := nI_of c0
        exact inb_big hj (by simp)]
    rfl
  · rw [if_neg (by decide)]
    obtain ⟨p, hp, rfl⟩ := inb_of ha (by omega)
    obtain ⟨-, h6, hc, e⟩ := hN p hp
    rw [if_pos (inb_nI (by omega) (by omega)), ix_nI (by omega), e]
    dsimp only
    rw [letter_X hc h6]
    dsimp only
    rw [if_pos rfl]
    cases hb : inb b (nm p).length
    · rfl
    · rw [if_pos rfl, if_pos rfl, if_neg (nI_ne1 (by have := getD_lt hc (ix b); omega)), show (97 : Int32) = nI 97 from rfl, nI_add]
theorem nameR_5 {w : Int32} {v : Int64} {l : List Nat} (h : NameR w v l) : 1 ≤ l.length ∧ l.length ≤ 6 ∧ (∀ c ∈ l, c < 26) ∧ w = nI (pk5 l) := ⟨h.1, h.2.1, h.2.2.1, h.2.2.2.1⟩
section Letter
variable {ld bk : Nat} {L : LD} {x m : St}
theorem step5 (LW : Nat → Nat → LD → St → St → Prop) : Step_5 (RelOf (RelB LW)) := by
  intro a b c x m h
  obtain ⟨hA, ld, bk, L, s1, hb, hla, hw, hd⟩ := id h
  obtain ⟨l1, l2, l3, l4, l5, l6, l7, l8, l9, l10⟩ := id hla
  have hbk := hb.1
  have hln : lnX (ld + 1 + 1) = 8 ∧ lnX (ld + 4 + 1) = 12 ∧ lnX (ld + 13 + 1) = 4 := by rcases s1.2.1 with rfl | rfl <;> exact ⟨rfl, rfl, rfl⟩
  have X0 := letterN_X l1.2.1 (by omega) (by omega) (nm := L.pn) (fun p hp => nameR_5 (l6 p hp).1) b c
  have X1 := letterN_X l2.2.1 (by omega) (by omega) (nm := L.tn) (fun p hp => nameR_5 (l7 p hp).1) b c
  have X2 := letterN_X l5.2.1 (by omega) (by omega) (nm := L.bn) (fun p hp => nameR_5 (l9 p hp).1) b c
  have M0 : ∀ (n : Nat) (nm : Nat → List Nat), n ≤ 12 → f_X11_manyOf a m = some (nI n, m) → (∀ p, p < n → ∃ v w, NameR w v (nm p) ∧ f_X11_nameOf (nI bk) a (nI p) m = some (v, m)) → inb a 3 = true → f_X11_letter a b c m = some (LTR n nm b c, m) := by
    intro n nm hn e1 e2 e3
    rw [e_X11_letter, show (2 : Int32) = nI 3 - 1 from rfl, is_M (by omega), e3]
    dsimp only [Option.bind]
    rw [if_neg (by decide), e1]
    dsimp only
    rw [is_M (by omega), LTR]
    dsimp only
    cases hB : inb b n
    · rfl
    · rw [if_neg (by decide), hb.2]
      obtain ⟨p, hp, rfl⟩ := inb_of hB (by omega)
      obtain ⟨v, w, ⟨-, h6, hc, -, e⟩, e4⟩ := e2 p hp
      rw [e4]
      dsimp only
      rw [e, letter_M hc h6, if_pos rfl, ix_nI (by omega)]
  rw [e_X10_letter]
  dsimp only [ltt]
  rw [s1.1, if_pos (landB_of s1.2.1)]
  by_cases c0 : a = 0
  · subst c0
    refine ⟨_, x, m, by rw [if_pos rfl]; exact X0, M0 L.np L.pn (by omega) ?_ (fun p hp => ⟨_, _, (l6 p hp).1, ?_⟩) (by decide), h⟩
    · rw [e_X11_manyOf, if_pos rfl, hb.2, (bk_ix hbk).2, if_pos (bk_ix hbk).1, l1.2.2]
    · rw [e_X11_nameOf, if_pos rfl, show (8 : Int32) = nI 8 from rfl, pk_mul, nI_add, if_pos (inb_nI (by omega) (by omega)), ix_nI (by omega)]
  rw [if_neg c0]
  by_cases c1 : a = 1
  · subst c1
    refine ⟨_, x, m, by rw [if_pos rfl]; exact X1, M0 L.nt L.tn (by omega) ?_ (fun p hp => ⟨_, _, (l7 p hp).1, ?_⟩) (by decide), h⟩
    · rw [e_X11_manyOf, if_neg (by decide), if_pos rfl, hb.2, (bk_ix hbk).2, if_pos (bk_ix hbk).1, l2.2.2]
    · rw [e_X11_nameOf, if_neg (by decide), if_pos rfl, show (12 : Int32) = nI 12 from rfl, pk_mul, nI_add, if_pos (inb_nI (by omega) (by omega)), ix_nI (by omega)]
  rw [if_neg c1]
  by_cases c2 : a = 2
  · subst c2
    refine ⟨_, x, m, by rw [if_pos rfl]; exact X2, M0 L.nb L.bn (by omega) ?_ (fun p hp => ⟨_, _, (l9 p hp).1, ?_⟩) (by decide), h⟩
    · rw [e_X11_manyOf, if_neg (by decide), if_neg (by decide), hb.2, (bk_ix hbk).2, if_pos (bk_ix hbk).1, l5.2.2]
    · rw [e_X11_nameOf, if_neg (by decide), if_neg (by decide), show (4 : Int32) = nI 4 from rfl, pk_mul, nI_add, if_pos (inb_nI (by omega) (by omega)), ix_nI (by omega)]
  rw [if_neg c2]
  refine ⟨-1, x, m, rfl, ?_, h⟩
  rw [e_X11_letter, show (2 : Int32) = nI 3 - 1 from rfl, is_M (by omega)]
  dsimp only [Option.bind]
  have : inb a 3 = false := by
    cases q : inb a 3
    · rfl
    · obtain ⟨j, hj, rfl⟩ := inb_of q (by omega)
      have : j = 0 ∨ j = 1 ∨ j = 2 := by omega
      rcases this with rfl | rfl | rfl
      · exact absurd rfl c0
      · exact absurd rfl c1
      · exact absurd rfl c2
  rw [this]
  rfl
end Letter
theorem getR {r n w : Nat} {σ : St} (e4 : gI σ r 4 = nI n) (e1 : gI σ r 1 = nI w) (hl : n * w ≤ lnX (r + 2)) (hb : lnX (r + 2) ≤ 1000) (hw : w ≤ 10) (hn : n ≤ 100) {i j : Nat} (hi : i < n) (hj : j < w) : f_X8_get r (nI i) (nI j) σ = some (gI σ (r + 2) (w * i + j), σ) := by
  have : (i + 1) * w ≤ n * w := Nat.mul_le_mul_right w hi
  rw [Nat.add_mul] at this
  rw [e_X8_get, e4, e1, if_neg (nI_pos (by omega)), if_neg (nI_ge hi (by omega)), if_neg (nI_pos (by omega)), if_neg (nI_ge hj (by omega)), pk_mul, nI_add, if_pos (inb_nI (by omega) (by omega)), ix_nI (by omega), Nat.mul_comm i w]
theorem getR_no {r n w : Nat} {σ : St} (e4 : gI σ r 4 = nI n) (e1 : gI σ r 1 = nI w) (hn : n < 2 ^ 31) (hw : w < 2 ^ 31) {a b : Int32} (h : inb a n = false ∨ inb b w = false) : f_X8_get r a b σ = some (-1, σ) := by
  rw [e_X8_get, e4, e1]
  by_cases c0 : a < 0
  · rw [if_pos c0]
  rw [if_neg c0]
  by_cases c1 : nI n ≤ a
  · rw [if_pos c1]
  rw [if_neg c1]
  by_cases c2 : b < 0
  · rw [if_pos c2]
  rw [if_neg c2]
  by_cases c3 : nI w ≤ b
  · rw [if_pos c3]
  exfalso
  obtain ⟨i, hi, rfl⟩ := nI_of c0
  obtain ⟨j, hj, rfl⟩ := nI_of c2
  have g1 : i < n := by
    rcases Nat.lt_or_ge i n with q | q
    · exact q
    · exact absurd (nI_le q hi) c1
  have g2 : j < w := by
    rcases Nat.lt_or_ge j w with q | q
    · exact q
    · exact absurd (nI_le q hj) c3
  rw [inb_nI g1 hn, inb_nI g2 hw] at h
  rcases h with h | h <;> cases h
theorem step17 (LW : Nat → Nat → LD → St → St → Prop) : Step_17 (RelOf (RelB LW)) := by
  intro a b x m h
  obtain ⟨hA, ld, bk, L, s1, hb, hla, hw, hd⟩ := id h
  obtain ⟨n, hn, e1, e2, e3⟩ := hd.2.2.2.2.2.2.1
  have h8 := hla.1.1
  have h12 := hla.2.1.1
  have hw1 : gI x 21 1 = nI 3 := (s1.2.2.2.2.1 21 (by simp [isRoll])).2
  have hl : lnX (21 + 2) = 60 := rfl
  have done : ∀ r, f_X10_loan a b x = some (r, x) → f_X11_loan a b m = some (r, m) → ∃ r σx' σm', f_X10_loan a b x = some (r, σx') ∧ f_X11_loan a b m = some (r, σm') ∧ RelOf (RelB LW) σx' σm' := fun r h1 h2 => ⟨r, x, m, h1, h2, h⟩
  cases ha : inb a n
  · have eM : f_X11_loan a b m = some (-1, m) := by
      rw [e_X11_loan, e2, is_M (by omega), ha]
      rfl
    have g := getR_no e1 hw1 (by omega) (by omega) (a := a) (b := b) (Or.inl ha)
    refine done (-1) ?_ eM
    rw [e_X10_loan]
    by_cases c3 : b = 3
    · rw [if_pos c3, holds_X e1 (by omega), ha]
      dsimp only [Option.bind]
      rw [if_pos (by decide), g]
    · rw [if_neg c3, g]
      rfl
  · obtain ⟨i, hi, rfl⟩ := inb_of ha (by omega)
    obtain ⟨p, q, t, hp, hq, ht, f1, f2, f3, f4, f5, f6⟩ := e3 i hi
    have G : ∀ j, j < 3 → f_X8_get 21 (nI i) (nI j) x = some (gI x 23 (3 * i + j), x) := fun j hj => getR e1 hw1 (by omega) (by omega) (by omega) (by omega) hi hj
    have G0 := G 0 (by omega)
    have G1 := G 1 (by omega)
    have G2 := G 2 (by omega)
    rw [show 3 * i + 0 = 3 * i from rfl, f1, show nI 0 = (0 : Int32) from rfl] at G0
    rw [f3, show nI 1 = (1 : Int32) from rfl] at G1
    rw [f5, show nI 2 = (2 : Int32) from rfl] at G2
    have M0 : f_X11_is (nI i) 0 (gI m 0 56 - 1) m = some (1, m) := by
      rw [e2, is_M (by omega), ha]; rfl
    have i20 : inb (nI i) 20 = true := inb_nI (by omega) (by omega)
    have i20x : ix (nI i) = i := ix_nI (by omega)
    by_cases c0 : b = 0
    · subst c0
      refine done (nI p) ?_ ?_
      · rw [e_X10_loan, if_neg (by decide), G0]; rfl
      · rw [e_X11_loan, M0]
        dsimp only [Option.bind]
        rw [if_neg (by decide), if_pos rfl, if_pos i20, i20x, f2]
    by_cases c1 : b = 1
    · subst c1
      refine done (nI q) ?_ ?_
      · rw [e_X10_loan, if_neg (by decide), G1]; rfl
      · rw [e_X11_loan, M0]
        dsimp only [Option.bind]
        rw [if_neg (by decide), if_neg (by decide), if_pos rfl, if_pos i20, i20x, f4]
    by_cases c2 : b = 2
    · subst c2
      refine done (nI t) ?_ ?_
      · rw [e_X10_loan, if_neg (by decide), G2]; rfl
      · rw [e_X11_loan, M0]
        dsimp only [Option.bind]
        rw [if_neg (by decide), if_neg (by decide), if_neg (by decide), if_pos rfl, if_pos i20, i20x, f6]
    by_cases c3 : b = 3
    · subst c3
      refine done (bi (hasT x q t && !hasT x p t)) ?_ ?_
      · rw [e_X10_loan, if_pos rfl, holds_X e1 (by omega), ha]
        dsimp only [Option.bind]
        rw [if_neg (by decide), e_X1_canUndo, G2]
        dsimp only [Option.bind]
        rw [G1]
        dsimp only [Option.bind]
        rw [bears_X s1 hla hd hq ht]
        dsimp only [Option.bind]
        cases hasT x q t
        · rfl
        · rw [if_neg (by decide), G0]
          dsimp only [Option.bind]
          rw [lacks_X s1 hla hd hp ht]
          cases hasT x p t <;> rfl
      · rw [e_X11_loan, M0]
        dsimp only [Option.bind]
        rw [if_neg (by decide), if_neg (by decide), if_neg (by decide), if_neg (by decide), if_pos rfl, e_X11_canBack, if_pos i20, if_pos i20, i20x, f4, f6, hasT_M hla hd (by omega) (by omega)]
        dsimp only [Option.bind]
        cases hasT x q t
        · rfl
        · rw [if_neg (by decide), if_pos i20, if_pos i20, f2, f6, hasT_M hla hd (by omega) (by omega)]
          cases hasT x p t <;> rfl
    · refine done (-1) ?_ ?_
      · rw [e_X10_loan, if_neg c3, getR_no e1 hw1 (by omega) (by omega) (Or.inr ?_)]
        · rfl
        · cases q : inb b 3
          · rfl
          · obtain ⟨j, hj, rfl⟩ := inb_of q (by omega)
            have : j = 0 ∨ j = 1 ∨ j = 2 := by omega
            rcases this with rfl | rfl | rfl
            · exact absurd rfl c0
            · exact absurd rfl c1
            · exact absurd rfl c2
      · rw [e_X11_loan, M0]
        dsimp only [Option.bind]
        rw [if_neg (by decide), if_neg c0, if_neg c1, if_neg c2, if_neg c3]
