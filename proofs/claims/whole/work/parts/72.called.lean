/-! ===== which titles a coat could be called ===== -/
theorem take_all {l : List Nat} {A : Nat → Nat} : (∀ j (h : j < l.length), (l.take (j + 1)).count l[j] ≤ A l[j]) ↔ ∀ k, l.count k ≤ A k := by
  constructor
  · intro h k
    have key : ∀ n, n ≤ l.length → (l.take n).count k ≤ A k := by
      intro n
      induction n with
      | zero => intro _; simp
      | succ n ih =>
        intro hn
        by_cases q : l[n] = k
        · have := h n (by omega)
          rw [q] at this
          exact this
        · rw [List.take_succ_eq_append_getElem (by omega), List.count_append, List.count_singleton, if_neg (by simpa using q), Nat.add_zero]
          exact ih (by omega)
    have := key l.length (Nat.le_refl _)
    rw [List.take_length] at this
    exact this
  · intro h j hj
    exact Nat.le_trans (List.Sublist.count_le _ (List.take_sublist _ _)) (h _)
section Called
variable {ld bk : Nat} {L : LD} {x m : St}
def allN (x : St) (L : LD) (p k : Nat) : Nat := itr (fun a t => if hasT x p t = true then a + (L.tn t).count k else a) L.nt (gI x 8 (26 * p + k)).toNatClampNeg 0
theorem allS_N (hl : RLa ld bk L x m) (hd : RDy L x m) {p k : Nat} (hp : p ≤ 8) (hk : k < 26) : allS x L p k = nI (allN x L p k) ∧ allN x L p k ≤ 10071 := by
  have h12 := hl.2.1.1
  obtain ⟨c, hc, g1, -⟩ := hd.2.2.2.2.1 (26 * p + k) (by omega)
  rw [allS, allN, g1, nI_clamp (by omega)]
  have key : ∀ d a i, i + d ≤ L.nt → itr (fun a t => if hasT x p t = true then a + nI ((L.tn t).count k) else a) d (nI a) i = nI (itr (fun a t => if hasT x p t = true then a + (L.tn t).count k else a) d a i) ∧ itr (fun a t => if hasT x p t = true then a + (L.tn t).count k else a) d a i ≤ a + 6 * d := by
    intro d
    induction d with
    | zero => intro a i _; exact ⟨rfl, Nat.le_refl _⟩
    | succ d ih =>
      intro a i hi
      obtain ⟨-, h6, -⟩ := nmT hl (t := i) (by omega)
      have hct := List.count_le_length (a := k) (l := L.tn i)
      rw [itr, itr]
      cases hasT x p i
      · rw [if_neg (by decide), if_neg (by decide)]
        have := ih a (i + 1) (by omega)
        exact ⟨this.1, by omega⟩
      · rw [if_pos rfl, if_pos rfl, nI_add]
        have := ih (a + (L.tn i).count k) (i + 1) (by omega)
        exact ⟨this.1, by omega⟩
  have := key L.nt c 0 (by omega)
  exact ⟨this.1, by omega⟩
theorem rank_X (hs : RSt ld x) (hl : RLa ld bk L x m) {t j : Nat} (ht : t < L.nt) (hj : j < (L.tn t).length) : f_X4_rankOf ld (nI t) (nI j) x = some (nI (((L.tn t).take (j + 1)).count (L.tn t)[j]), x) := by
  obtain ⟨-, h6, hc⟩ := nmT hl ht
  have gl : ∀ i (hi : i < (L.tn t).length), f_X8_letterOf (nI (pk5 (L.tn t))) (nI i) x = some (nI (L.tn t)[i], x) := by
    intro i hi
    rw [letter_X hc h6, if_pos (inb_nI hi (by omega)), ix_nI (by omega), show (L.tn t).getD i 0 = (L.tn t)[i] by simp [List.getD, hi]]
  rw [e_X4_rankOf, nameT_X hs hl ht]
  dsimp only [Option.bind]
  rw [gl j hj]
  dsimp only
  have hlt : ∀ i (hi : i < (L.tn t).length), (L.tn t)[i] < 26 := fun i hi => hc _ (List.getElem_mem hi)
  obtain ⟨a', e1, e2⟩ := loop_exF (fun n a i => f_X4_rankOf_22 ld n (nI j) (nI (pk5 (L.tn t))) (nI (L.tn t)[j]) (nI a) (nI i) x) (fun a => some (nI a, x)) (j + 1) (by omega) (fun i a => a = ((L.tn t).take i).count (L.tn t)[j]) (fun n a _ => by
    rw [e_X4_rankOf_22, if_pos (nI_lt (by omega) (by omega))]) (fun n a i hi e => by
    have hi' : i < (L.tn t).length := by omega
    refine ⟨((L.tn t).take (i + 1)).count (L.tn t)[j], ?_, rfl⟩
    rw [e_X4_rankOf_22, if_neg (nI_nlt (by omega) (by omega)), if_neg (show ¬ (6 : Int32) ≤ nI i from nI_ge (b := 6) (by omega) (by omega)), gl i hi', nI_1, nI_1, List.take_succ_eq_append_getElem hi', List.count_append, List.count_singleton, e]
    dsimp only [Option.bind]
    have h1 := hlt i hi'
    have h2 := hlt j hj
    by_cases q : (L.tn t)[i] = (L.tn t)[j]
    · rw [if_pos (by rw [q]), if_pos (by simpa using q)]
    · rw [if_neg (fun w => q ((nI_eq (by omega) (by omega)).mp w)), if_neg (by simpa using q)]; rfl) 0 (by simp)
  rw [← e1]
  exact e2
/-- can a title's letters be laid of a row of numbers? -/
def layB (A : Nat → Nat) (l : List Nat) : Bool := (List.range 26).all fun k => decide (l.count k ≤ A k)
theorem layB_iff {A : Nat → Nat} {l : List Nat} : layB A l = true ↔ ∀ k, k < 26 → l.count k ≤ A k := by
  simp [layB, List.all_eq_true]
theorem lay_X {A : Nat → Nat} (hs : RSt ld x) (hl : RLa ld bk L x m) (hA : ∀ k, k < 26 → gI x 11 k = nI (A k) ∧ A k < 2 ^ 31) {t : Nat} (ht : t < L.nt) : f_X2_canLay (nI t) x = some (bi (layB A (L.tn t)), x) := by
  obtain ⟨-, h6, hc⟩ := nmT hl ht
  have hlt : ∀ i (hi : i < (L.tn t).length), (L.tn t)[i] < 26 := fun i hi => hc _ (List.getElem_mem hi)
  have hd : layB A (L.tn t) = true ↔ ∀ j (h : j < (L.tn t).length), ((L.tn t).take (j + 1)).count (L.tn t)[j] ≤ A (L.tn t)[j] := by
    rw [layB_iff, take_all]
    constructor
    · intro h k
      by_cases q : k < 26
      · exact h k q
      · rw [List.count_eq_zero.mpr (fun w => q (hc k w))]; omega
    · intro h k _; exact h k
  have key : ∀ d i n, i + d = (L.tn t).length → d < n → (∀ j (h : j < (L.tn t).length), j < i → ((L.tn t).take (j + 1)).count (L.tn t)[j] ≤ A (L.tn t)[j]) → f_X2_canLay_20 n (nI t) (nI (pk5 (L.tn t))) (nI (L.tn t).length) (nI i) x = some (bi (layB A (L.tn t)), x) := by
    intro d
    induction d with
    | zero =>
      intro i n hi hn hp
      obtain ⟨n, rfl⟩ : ∃ k, n = k + 1 := ⟨n - 1, by omega⟩
      rw [e_X2_canLay_20, if_pos (nI_le (by omega) (by omega)), hd.mpr (fun j h => hp j h (by omega))]
      rfl
    | succ d ih =>
      intro i n hi hn hp
      obtain ⟨n, rfl⟩ : ∃ k, n = k + 1 := ⟨n - 1, by omega⟩
      have hi' : i < (L.tn t).length := by omega
      have h1 := hlt i hi'
      have hcl := List.count_le_length (a := (L.tn t)[i]) (l := (L.tn t).take (i + 1))
      rw [List.length_take] at hcl
      rw [e_X2_canLay_20, if_neg (nI_ge hi' (by omega)), letter_X hc h6, if_pos (inb_nI hi' (by omega)), ix_nI (by omega), show (L.tn t).getD i 0 = (L.tn t)[i] by simp [List.getD, hi']]
      dsimp only [Option.bind, ltt]
      rw [if_neg (nI_pos (by omega)), if_neg (show ¬ (26 : Int32) ≤ nI (L.tn t)[i] from nI_ge (b := 26) h1 (by omega)), hs.1, if_pos (landB_of hs.2.1), rank_X hs hl ht hi']
      dsimp only
      rw [if_pos (inb_nI h1 (by omega)), ix_nI (by omega), (hA _ h1).1]
      by_cases q : ((L.tn t).take (i + 1)).count (L.tn t)[i] ≤ A (L.tn t)[i]
      · rw [if_pos (nI_le q (hA _ h1).2), nI_1]
        refine ih (i + 1) n (by omega) (by omega) (fun j h hj => ?_)
        rcases Nat.lt_or_ge j i with w | w
        · exact hp j h w
        · have : j = i := by omega
          subst this
          exact q
      · rw [if_neg (nI_ge (by omega) (by omega)), Bool.eq_false_iff.mpr (fun w => q (hd.mp w i hi'))]
        rfl
  rw [e_X2_canLay]
  dsimp only [ltt]
  rw [hs.1, if_pos (landB_of hs.2.1), nameT_X hs hl ht]
  dsimp only [Option.bind]
  rw [len_X hc h6]
  dsimp only
  exact key (L.tn t).length 0 FU (by omega) (by rw [FU_eq]; omega) (fun j h hj => by omega)
end Called
