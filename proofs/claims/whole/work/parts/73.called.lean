/-! ===== calledBy ===== -/
section Called
variable {ld bk : Nat} {L : LD} {x m : St}
def calS (x : St) (L : LD) (p : Nat) : Int32 := itr (fun a t => if layB (allN x L p) (L.tn t) = true then a ||| ((1 : Int32) <<< (nI t &&& 31)) else a) L.nt 0 0
theorem called_X (hs : RSt ld x) (hb : RBk bk m) (hl : RLa ld bk L x m) (hd : RDy L x m) {p : Nat} (hp : p < L.np) : ∃ σ', ScX x σ' ∧ f_X2_calledBy (nI p) x = some (calS x L p, σ') := by
  have h8 := hl.1.1
  have h12 := hl.2.1.1
  obtain ⟨σ1, ⟨h1, h2⟩, e1⟩ := cl_X (r := 11) (Or.inl rfl) hs hb hl hd hp
  obtain ⟨s', b', l', d'⟩ := scrP (h1.sc rfl) (ScM.rf m) hs hb hl hd
  refine ⟨σ1, h1.sc rfl, ?_⟩
  rw [e_X2_calledBy, e1]
  dsimp only [Option.bind]
  refine loop_fu (fun n a i => f_X2_calledBy_13 n a (nI i) σ1) _ (fun a => some (a, σ1)) L.nt (by omega) ?_ ?_ 0
  · intro n a
    rw [e_X2_calledBy_13]
    dsimp only [ltt]
    rw [s'.1, if_pos (landB_of s'.2.1), l'.2.1.2.1, if_pos (nI_le (Nat.le_refl _) (by omega))]
  · intro n a i hi
    rw [e_X2_calledBy_13]
    dsimp only [ltt]
    rw [s'.1, if_pos (landB_of s'.2.1), l'.2.1.2.1, if_neg (nI_ge hi (by omega)), lay_X s' l' (A := allN x L p) (fun k hk => by
      obtain ⟨q1, q2⟩ := allS_N hl hd (p := p) (by omega) hk
      rw [h2 k hk, q1]
      exact ⟨rfl, by omega⟩) hi, nI_1]
    dsimp only [Option.bind]
    cases layB (allN x L p) (L.tn i)
    · rw [if_pos (by decide), if_neg (by decide)]
    · rw [if_neg (by decide), if_pos rfl]
theorem cal23_M (hb : RBk bk m) (hl : RLa ld bk L x m) (hd : RDy L x m) {p t : Nat} (hp : p < L.np) (ht : t < L.nt) (K : Int32 → Int32 → Int32 → St → Option (Int32 × St)) (a : Int32) : f_X11_calledBy_23 K FU (nI p) a (nI t) 1 0 m = K (nI p) (if layB (allN x L p) (L.tn t) = true then a ||| ((1 : Int32) <<< (nI t &&& 31)) else a) (nI t + 1) m := by
  have h8 := hl.1.1
  obtain ⟨-, h6, hc⟩ := nmT hl ht
  obtain ⟨b, eb, e⟩ := loop_exF (fun n (b : Bool) i => f_X11_calledBy_23 K n (nI p) a (nI t) (bi b) (nI i) m) (fun b => K (nI p) (if b = true then a ||| ((1 : Int32) <<< (nI t &&& 31)) else a) (nI t + 1) m) 26 (by omega) (fun i b => b = true ↔ ∀ k, k < i → (L.tn t).count k ≤ allN x L p k) (fun n b _ => by
    rw [e_X11_calledBy_23, if_pos (show (26 : Int32) ≤ nI 26 by decide)]
    dsimp only [ltt]
    cases b
    · rw [if_pos (by decide), if_neg (by decide), Int32.or_zero]
    · rw [if_neg (by decide), if_pos rfl]) (fun n b i hi hb' => by
    have hcl := List.count_le_length (a := i) (l := L.tn t)
    obtain ⟨q1, q2⟩ := allS_N hl hd (p := p) (by omega) hi
    refine ⟨b && decide ((L.tn t).count i ≤ allN x L p i), ?_, ?_⟩
    · rw [e_X11_calledBy_23, if_neg (show ¬ (26 : Int32) ≤ nI i from nI_ge (b := 26) hi (by omega)), nI_1]
      cases b
      · rw [if_pos (by decide)]; rfl
      · rw [if_neg (by decide), often_M hb hl ht hi]
        dsimp only [Option.bind]
        by_cases c0 : (L.tn t).count i = 0
        · rw [c0, if_pos nI_0, decide_eq_true (Nat.zero_le _)]; rfl
        · rw [if_neg (nI_ne0 (by omega) (by omega)), often_M hb hl ht hi]
          dsimp only
          rw [allOf_M hb hl hd (by omega) hi, q1]
          dsimp only
          by_cases c1 : (L.tn t).count i ≤ allN x L p i
          · rw [if_neg (nI_nlt c1 (by omega)), decide_eq_true c1]; rfl
          · rw [if_pos (nI_lt (by omega) (by omega)), decide_eq_false c1]; rfl
    · rw [Bool.and_eq_true, hb', decide_eq_true_iff]
      constructor
      · rintro ⟨w1, w2⟩ k hk
        rcases Nat.lt_or_ge k i with z | z
        · exact w1 k z
        · have : k = i := by omega
          rw [this]; exact w2
      · intro w
        exact ⟨fun k hk => w k (by omega), w i (by omega)⟩) true (by simp)
  have : b = layB (allN x L p) (L.tn t) := by
    cases q : layB (allN x L p) (L.tn t)
    · cases b
      · rfl
      · rw [layB_iff.mpr (eb.mp rfl)] at q; cases q
    · exact eb.mpr (layB_iff.mp q)
  rw [← this]
  exact e
theorem called_M (hb : RBk bk m) (hl : RLa ld bk L x m) (hd : RDy L x m) {p : Nat} (hp : p < L.np) : f_X11_calledBy (nI p) m = some (calS x L p, m) := by
  have h12 := hl.2.1.1
  rw [e_X11_calledBy]
  refine loop_fu (fun n a i => f_X11_calledBy_4 n (nI p) a (nI i) m) _ (fun a => some (a, m)) L.nt (by omega) ?_ ?_ 0
  · intro n a
    rw [e_X11_calledBy_4, hb.2, if_pos (bk_ix hb.1).1, (bk_ix hb.1).2, hl.2.1.2.2, if_pos (nI_le (Nat.le_refl _) (by omega))]
  · intro n a i hi
    rw [e_X11_calledBy_4, hb.2, if_pos (bk_ix hb.1).1, (bk_ix hb.1).2, hl.2.1.2.2, if_neg (nI_ge hi (by omega)), cal23_M hb hl hd hp hi, nI_1]
end Called
