/-! ===== the first stores ===== -/
def L0 : LD := ((0, 0, 0, 0, 0), fun _ => [], fun _ => [], fun _ => [])
theorem gx0 (o k : Nat) : gI sX0 o k = sX0I o k := rfl
theorem gm0 (o k : Nat) : gI sM0 o k = sM0I o k := rfl
theorem z0X {o : Nat} (h : o = 1 ∨ o = 2 ∨ o = 7 ∨ o = 8 ∨ o = 9 ∨ o = 10 ∨ o = 33) (k : Nat) : gI sX0 o k = 0 := by
  rcases h with rfl | rfl | rfl | rfl | rfl | rfl | rfl <;> rfl
theorem z0M {o : Nat} (h : o = 1 ∨ o = 32 ∨ o = 35 ∨ o = 36 ∨ o = 40 ∨ o = 43 ∨ o = 45) (k : Nat) : gI sM0 o k = 0 := by
  rcases h with rfl | rfl | rfl | rfl | rfl | rfl | rfl <;> rfl
theorem startK : K 54 0 L0 sX0 sM0 := by
  refine ⟨⟨0, ⟨by omega, rfl, rfl, fun i hi => ⟨0, by omega, z0X (by omega) i, z0M (by omega) i⟩⟩, ⟨rfl, rfl⟩, fun i hi => (z0X (by omega) i).trans (z0M (by omega) i).symm, ⟨1, by decide, rfl, rfl⟩, ⟨0, by omega, rfl, rfl, fun i hi => by omega⟩⟩, ?_, ⟨by omega, rfl⟩, ?_, fun i hi => absurd hi (Nat.not_lt_zero _), ?_⟩
  · refine ⟨rfl, Or.inr rfl, Or.inl rfl, by decide, fun r hr => ?_, ⟨rfl, rfl⟩, ⟨rfl, rfl⟩, fun k _ => rfl⟩
    simp only [isRoll, List.mem_cons, List.not_mem_nil, or_false] at hr
    rcases hr with rfl | rfl | rfl | rfl | rfl | rfl | rfl | rfl | rfl | rfl | rfl <;> exact ⟨rfl, rfl⟩
  · refine ⟨⟨by decide, rfl, rfl⟩, ⟨by decide, rfl, rfl⟩, ⟨by decide, rfl, rfl⟩, ⟨by decide, rfl, rfl⟩, ⟨by decide, rfl, rfl⟩, fun p hp => absurd hp (Nat.not_lt_zero _), fun p hp => absurd hp (Nat.not_lt_zero _), fun p hp => absurd hp (Nat.not_lt_zero _), fun p hp => absurd hp (Nat.not_lt_zero _), fun k hk => ⟨10, by omega, by omega, ?_, ?_⟩⟩
    · rfl
    · show ten 26 (26 * 0 + k) = nI 10
      unfold ten
      rw [if_pos (by omega)]; rfl
  · refine ⟨⟨0, by omega, rfl, rfl⟩, ⟨0, by omega, rfl, rfl⟩, ⟨0, by omega, rfl, rfl, fun i hi => by omega⟩, fun p hp => ⟨0, by decide, fun _ => rfl, z0X (by omega) p, z0M (by omega) p⟩, fun i hi => ⟨0, by omega, z0X (by omega) i, z0M (by omega) i⟩, fun p t hp => absurd hp (Nat.not_lt_zero _), ⟨0, by omega, rfl, rfl, fun k hk => by omega⟩, ⟨0, 0, by omega, by omega, fun _ => rfl, rfl, rfl, rfl, fun k _ hk => by omega⟩, ⟨0, 0, by omega, by omega, fun _ => rfl, rfl, rfl, rfl, fun k _ hk => by omega⟩⟩
theorem start0 : RelF sX0 sM0 := by
  refine startK.rel ?_
  have tz : ∀ W, TW W L0 sX0 = 0 := fun W => by
    unfold TW
    rw [lsum_z (fun i _ => by rw [loN, z0X (by omega) i]; rfl), csum_b]
    have := bt_z (B := fun p => bsum (fun t => nw W (L0.tn t)) L0.nt (coatN sX0 p)) (a := 0) 8 (fun i _ _ => rfl)
    rw [Nat.zero_add] at this
    rw [this, btot]
  refine ⟨fun p k _ _ _ => by rw [loN, z0X (by omega)]; rfl, by rw [tz]; omega, ?_⟩
  rw [tz]
  have e1 : rivN sX0 = 0 := rfl
  have e2 : bulN sX0 = 0 := rfl
  omega
