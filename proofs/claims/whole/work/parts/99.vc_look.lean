/-! ===== words and numbers of the text, here ===== -/
def nuN (t : Nat → Nat) (a : Nat) : Nat → Nat
  | 0 => 0
  | k + 1 => nuN t a k * 10 + t (a + k) - 48
theorem nmL_lt {t : Nat → Nat} {a : Nat} : ∀ {k}, (∀ i, i < k → let1 (t (a + i)) = true) → ∀ c ∈ nmL t a k, c < 26 := by
  intro k
  induction k with
  | zero => intro _ c hc; cases hc
  | succ k ih =>
    intro h c hc
    rw [nmL, List.mem_append] at hc
    rcases hc with hc | hc
    · exact ih (fun i hi => h i (by omega)) c hc
    · rw [List.mem_singleton] at hc
      have := h k (by omega)
      simp only [let1, Bool.and_eq_true, decide_eq_true_eq] at this
      omega
theorem nuN_lt {t : Nat → Nat} {a : Nat} : ∀ {k}, (∀ i, i < k → dig1 (t (a + i)) = true) → nuN t a k < 10 ^ k := by
  intro k
  induction k with
  | zero => intro _; show 0 < 1; omega
  | succ k ih =>
    intro h
    have h1 := ih (fun i hi => h i (by omega))
    have := h k (by omega)
    simp only [dig1, Bool.and_eq_true, decide_eq_true_eq] at this
    rw [nuN, Nat.pow_succ]
    omega
section Lk
variable {t : Nat → Nat} {n : Nat}
abbrev sW (t : Nat → Nat) (y : St) (a k : Nat) : St := sI (sI y 3 6 (nI (pk5 (nmL t a k)))) 3 3 (nI (a + k))
abbrev sN (t : Nat → Nat) (y : St) (a k : Nat) : St := sI (sI y 3 6 (nI (nuN t a k))) 3 3 (nI (a + k))
theorem s63 (y : St) (u v w z : Int32) : sI (sI (sI (sI y 3 6 u) 3 3 v) 3 6 w) 3 3 z = sI (sI y 3 6 w) 3 3 z := by
  rw [sIw (sI y 3 6 u) (o := 3) (k := 3) (o' := 3) (k' := 6) (by decide), sI2, sI2]
theorem sX_3 (y : St) (v w : Int32) : gI (sI (sI y 3 6 v) 3 3 w) 3 2 = gI y 3 2 ∧ gI (sI (sI y 3 6 v) 3 3 w) 3 3 = w ∧ gI (sI (sI y 3 6 v) 3 3 w) 3 4 = gI y 3 4 ∧ gI (sI (sI y 3 6 v) 3 3 w) 3 6 = v ∧ gI (sI (sI y 3 6 v) 3 3 w) 3 7 = gI y 3 7 ∧ gI (sI (sI y 3 6 v) 3 3 w) 3 8 = gI y 3 8 ∧ gI (sI (sI y 3 6 v) 3 3 w) 5 2 = gI y 5 2 ∧ (∀ k, gI (sI (sI y 3 6 v) 3 3 w) 1 k = gI y 1 k) ∧ (∀ k, gI (sI (sI y 3 6 v) 3 3 w) 4 k = gI y 4 k) := by
  refine ⟨?_, ge_s, ?_, ?_, ?_, ?_, ?_, fun k => ?_, fun k => ?_⟩
  · rw [ge_n (by decide), ge_n (by decide)]
  · rw [ge_n (by decide), ge_n (by decide)]
  · rw [ge_n (by decide), ge_s]
  · rw [ge_n (by decide), ge_n (by decide)]
  · rw [ge_n (by decide), ge_n (by decide)]
  · rw [ge_n (by decide), ge_n (by decide)]
  · rw [ge_n (by omega), ge_n (by omega)]
  · rw [ge_n (by omega), ge_n (by omega)]
theorem nI_df (a k : Nat) : nI (a + k) - nI a = nI k := by
  rw [pk_sub (by omega)]; congr 1; omega
theorem rdW_s {y : St} (ht : TpX t y) (hb : ∀ i, t i < 256) (hn : n ≤ 1600) (e2 : gI y 3 2 = nI n) {a k : Nat} (e4 : gI y 3 4 = nI a) (hk : k < 6) (hr : ∀ i, i < k + 1 → let1 (t (a + i)) = true) (ha : a + k < n) (N : Nat) : f_X6_readWord_5 (N + 1) (sW t y a k) = f_X6_readWord_5 N (sW t y a (k + 1)) := by
  obtain ⟨s2, s3, s4, s6, -, -, -, s1, -⟩ := sX_3 y (nI (pk5 (nmL t a k))) (nI (a + k))
  have hL := hr k (by omega)
  have hlt := hb (a + k)
  simp only [let1, Bool.and_eq_true, decide_eq_true_eq] at hL
  rw [e_X6_readWord_5]
  dsimp only [ltt]
  rw [s3, s2, e2, s4, e4, nI_df, s6, if_neg (nI_ge (by omega) (by omega)), if_pos (inb_nI (by omega) (by omega)), ix_nI (by omega), s1, ht.1 _ (by omega), if_neg (show ¬ nI (t (a + k)) < (97 : Int32) from nI_nlt (b := 97) (by omega) (by omega)), if_pos (inb_nI (by omega) (by omega)), if_neg (show ¬ (122 : Int32) < nI (t (a + k)) from nI_nlt (a := 122) (by omega) (by omega)), if_pos (show nI k < (6 : Int32) from nI_lt (b := 6) hk (by omega)), if_pos (inb_nI (by omega) (by omega)), show (97 : Int32) = nI 97 from rfl, pk_sub (by omega), nI_1]
  have o := or5 (l := nmL t a k) (c := t (a + k) - 97) (nmL_lt (fun i hi => hr i (by omega))) (by rw [nmL_len]; exact hk) (by omega)
  rw [nmL_len] at o
  rw [o, show gI (sI (sI (sI y 3 6 (nI (pk5 (nmL t a k)))) 3 3 (nI (a + k))) 3 6 (nI (pk5 (nmL t a k ++ [t (a + k) - 97])))) 3 3 = nI (a + k) from (ge_n (by decide)).trans ge_s, nI_1, s63]
  rfl
theorem rdN_s {y : St} (ht : TpX t y) (hb : ∀ i, t i < 256) (hn : n ≤ 1600) (e2 : gI y 3 2 = nI n) {a k : Nat} (e4 : gI y 3 4 = nI a) (hk : k < 4) (hr : ∀ i, i < k + 1 → dig1 (t (a + i)) = true) (ha : a + k < n) (N : Nat) : f_X6_readNumber_5 (N + 1) (sN t y a k) = f_X6_readNumber_5 N (sN t y a (k + 1)) := by
  obtain ⟨s2, s3, s4, s6, -, -, -, s1, -⟩ := sX_3 y (nI (nuN t a k)) (nI (a + k))
  have hL := hr k (by omega)
  have hlt := hb (a + k)
  simp only [dig1, Bool.and_eq_true, decide_eq_true_eq] at hL
  rw [e_X6_readNumber_5]
  dsimp only [ltt]
  rw [s3, s2, e2, s4, e4, nI_df, s6, if_neg (nI_ge (by omega) (by omega)), if_pos (inb_nI (by omega) (by omega)), ix_nI (by omega), s1, ht.1 _ (by omega), if_neg (show ¬ nI (t (a + k)) < (48 : Int32) from nI_nlt (b := 48) (by omega) (by omega)), if_pos (inb_nI (by omega) (by omega)), if_neg (show ¬ (57 : Int32) < nI (t (a + k)) from nI_nlt (a := 57) (by omega) (by omega)), if_pos (show nI k < (4 : Int32) from nI_lt (b := 4) hk (by omega)), if_pos (inb_nI (by omega) (by omega)), show (48 : Int32) = nI 48 from rfl, show (10 : Int32) = nI 10 from rfl, pk_mul, nI_add, pk_sub (by omega)]
  rw [show gI (sI (sI (sI y 3 6 (nI (nuN t a k))) 3 3 (nI (a + k))) 3 6 (nI (nuN t a k * 10 + t (a + k) - 48))) 3 3 = nI (a + k) from (ge_n (by decide)).trans ge_s, nI_1, s63]
  rfl
theorem own_X {l : List Nat} (hl : 1 ≤ l.length ∧ l.length ≤ 6 ∧ ∀ c ∈ l, c < 26) {σ : St} (ht : TpX t σ) (h6 : gI σ 3 6 = nI (pk5 l)) (h5 : gI σ 3 5 = 300) : f_X6_readWord_104 FU 0 σ = some (1, sI σ 3 5 (nI (own l))) := by
  have key := loop_exF (fun n a i => f_X6_readWord_104 n (nI i) a) (fun a => some ((1 : Int32), a)) 23 (by omega)
    (fun i a => ∃ c : Nat, a = sI σ 3 5 (nI c) ∧ ((∃ j, j < i ∧ owl j = l ∧ c = 400 + j) ∨ ((∀ j, j < i → ¬ owl j = l) ∧ c = 300)))
    (fun n a _ => by rw [e_X6_readWord_104, show (23 : Int32) = nI 23 from rfl, if_pos (nI_le (by omega) (by omega))])
    (fun n a i hi hP => by
      obtain ⟨c, rfl, hc⟩ := hP
      have ho := owl_ok i hi
      rw [e_X6_readWord_104, show (23 : Int32) = nI 23 from rfl, if_neg (nI_ge hi (by omega)), if_pos (inb_nI hi (by omega)), ix_nI (by omega), ge_n (by omega), ge_n (by decide), ht.2 i hi, ownN_e, owN_l i hi, h6]
      dsimp only [ltt]
      by_cases e : owl i = l
      · rw [if_pos (by rw [e]), sI2, show (400 : Int32) = nI 400 from rfl, nI_add, nI_1]
        exact ⟨_, rfl, _, rfl, .inl ⟨i, by omega, e, rfl⟩⟩
      · rw [if_neg (fun q => e ((pk5_eq ho.2.2.1 ho.2.1 hl.2.2 hl.2.1).mp q)), nI_1]
        refine ⟨_, rfl, c, rfl, ?_⟩
        rcases hc with ⟨j, h1, h2, h3⟩ | ⟨h1, h2⟩
        · exact .inl ⟨j, by omega, h2, h3⟩
        · refine .inr ⟨fun j hj => ?_, h2⟩
          by_cases q : j = i
          · rw [q]; exact e
          · exact h1 j (by omega))
    (sI σ 3 5 300) ⟨300, rfl, .inr ⟨fun j hj => by omega, rfl⟩⟩
  obtain ⟨a', ⟨c, rfl, hc⟩, e⟩ := key
  have e' : f_X6_readWord_104 FU 0 (sI σ 3 5 300) = some (1, sI σ 3 5 (nI c)) := e
  rw [sI_id h5] at e'
  rw [e']
  rcases hc with ⟨j, h1, h2, h3⟩ | ⟨h1, h2⟩
  · rw [← h2, own_i h1, h3]
  · rw [own_no h1, h2]
end Lk
