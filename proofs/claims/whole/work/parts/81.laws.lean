/-! ===== the laws' operations ===== -/
theorem over_M {a b : Int} (ha : Sm a) (hb : Sm b) (σ : St) : f_X11_over (vL a) (vL b) σ = some (vL (dv a b), σ) := by
  rw [e_X11_over]
  have z0 : (0 : Int64).toInt = 0 := rfl
  have e2 := Int.natAbs_tmod a b
  have sm : Sm (a.tmod b) ∨ b = 0 := by
    by_cases c : b = 0
    · exact Or.inr c
    · have : (a.tmod b).natAbs < b.natAbs := by rw [e2]; exact Nat.mod_lt _ (by omega)
      unfold Sm at hb ⊢
      omega
  unfold dv
  by_cases c0 : b = 0
  · rw [if_pos ((cmp_0 _ _).mpr ((vL_0 hb).mpr c0)), if_pos c0]; rfl
  have sm := sm.resolve_right c0
  rw [if_neg (fun q => c0 ((vL_0 hb).mp ((cmp_0 _ _).mp q))), if_neg c0, if_neg (fun q => c0 ((vL_0 hb).mp q)), div_L ha hb, rem_L ha hb]
  dsimp only [ltt]
  rw [if_neg (fun q => c0 ((vL_0 hb).mp q))]
  by_cases c1 : a.tmod b = 0
  · rw [if_pos c1, c1, if_pos (by decide +kernel)]
  rw [if_neg (fun q => c1 ((vL_0 sm).mp ((cmp_0 _ _).mp q))), if_neg c1]
  have s1 : ∀ z : Int, vL z - 1 = vL (z - 1) := fun z => by show Int64.ofInt z - Int64.ofInt 1 = Int64.ofInt (z - 1); rw [Int64.ofInt_sub]
  by_cases ca : 0 ≤ a
  · rw [if_pos (by rw [cmp_ge, ha.v, z0]; exact ca)]
    by_cases cb : 0 ≤ b
    · rw [if_pos (by rw [cmp_ge, hb.v, z0]; exact cb), if_pos rfl, if_pos (by omega)]
    · rw [if_neg (fun q => by rw [cmp_ge, hb.v, z0] at q; exact cb q), if_neg (by decide), if_neg (by omega), s1]
  · rw [if_neg (fun q => by rw [cmp_ge, ha.v, z0] at q; exact ca q)]
    by_cases cb : 0 ≤ b
    · rw [if_pos (by rw [cmp_ge, hb.v, z0]; exact cb), if_neg (by decide), if_neg (by omega), s1]
    · rw [if_neg (fun q => by rw [cmp_ge, hb.v, z0] at q; exact cb q), if_pos rfl, if_pos (by omega)]
theorem xor_sg (x y : Int64) : 0 ≤ (x ^^^ y).toInt ↔ (x.toInt < 0 ↔ y.toInt < 0) := by
  have h : ∀ z : Int64, z.toInt < 0 ↔ z.toBitVec.msb = true := fun z => by
    rw [BitVec.msb_eq_toInt, decide_eq_true_iff]; rfl
  have h1 := h (x ^^^ y)
  rw [Int64.toBitVec_xor, BitVec.msb_xor] at h1
  rw [h x, h y]
  have h2 : 0 ≤ (x ^^^ y).toInt ↔ ¬ (x ^^^ y).toInt < 0 := by omega
  rw [h2, h1]
  cases x.toBitVec.msb <;> cases y.toBitVec.msb <;> simp
theorem fdiv_X {a b : Int} (ha : Sm a) (hb : Sm b) (h0 : ¬ b = 0) (σ : St) : f_J9_floorDiv_f86c9 (vL a) (vL b) σ = some (vL (dv a b), σ) := by
  rw [e_J9_floorDiv_f86c9, if_neg (fun q => h0 ((vL_0 hb).mp q)), div_L ha hb]
  dsimp only [ltt]
  have e3 := Int.mul_tdiv_add_tmod a b
  have s1 : ∀ z : Int, vL z - 1 = vL (z - 1) := fun z => by show Int64.ofInt z - Int64.ofInt 1 = Int64.ofInt (z - 1); rw [Int64.ofInt_sub]
  have z0 : (0 : Int64).toInt = 0 := rfl
  have m1 : vL (a.tdiv b) * vL b = vL (b * a.tdiv b) := by show Int64.ofInt _ * Int64.ofInt _ = Int64.ofInt _; rw [Int.mul_comm, Int64.ofInt_mul]
  have e2 := Int.natAbs_tmod a b
  have e5 : (a.tmod b).natAbs < b.natAbs := by rw [e2]; exact Nat.mod_lt _ (by omega)
  have hab := ha
  have hbb := hb
  unfold Sm at hab hbb
  have m2 : (vL (b * a.tdiv b)).toInt = b * a.tdiv b := vL_t (by omega) (by omega)
  unfold dv
  rw [if_neg h0, m1]
  by_cases c2 : (a < 0 ↔ b < 0)
  · rw [if_pos (by rw [cmp_ge, z0, xor_sg, ha.v, hb.v]; exact c2), if_pos c2]
    split <;> rfl
  · rw [if_neg (fun q => by rw [cmp_ge, z0, xor_sg, ha.v, hb.v] at q; exact c2 q), if_neg c2]
    by_cases c1 : a.tmod b = 0
    · rw [if_pos ((cmp_0 _ _).mpr (by rw [show b * a.tdiv b = a by omega])), if_pos c1]
    · rw [if_neg (fun q => by
        have q := congrArg Int64.toInt ((cmp_0 _ _).mp q)
        rw [m2, ha.v] at q
        omega), if_neg c1, s1]
theorem fmod_X {a b : Int} (ha : Sm a) (hb : Sm b) (h0 : ¬ b = 0) (σ : St) : f_J9_floorMod_f86c9 (vL a) (vL b) σ = some (vL (dm a b), σ) := by
  rw [e_J9_floorMod_f86c9, if_neg (fun q => h0 ((vL_0 hb).mp q)), rem_L ha hb]
  dsimp only [ltt]
  have e3 := Int.mul_tdiv_add_tmod a b
  have z0 : (0 : Int64).toInt = 0 := rfl
  have e2 := Int.natAbs_tmod a b
  have e5 : (a.tmod b).natAbs < b.natAbs := by rw [e2]; exact Nat.mod_lt _ (by omega)
  have hbb := hb
  unfold Sm at hbb
  have sm : Sm (a.tmod b) := by unfold Sm; omega
  unfold dm dv
  rw [if_neg h0, if_neg h0]
  by_cases c2 : (a < 0 ↔ b < 0)
  · rw [if_pos (by rw [cmp_ge, z0, xor_sg, ha.v, hb.v]; exact c2), if_pos c2]
    have : (if a.tmod b = 0 then a.tdiv b else a.tdiv b) = a.tdiv b := by split <;> rfl
    rw [this, show a - b * a.tdiv b = a.tmod b by omega]
  · rw [if_neg (fun q => by rw [cmp_ge, z0, xor_sg, ha.v, hb.v] at q; exact c2 q), if_neg c2]
    by_cases c1 : a.tmod b = 0
    · rw [if_pos ((cmp_0 _ _).mpr (by rw [c1]; rfl)), if_pos c1, show a - b * a.tdiv b = a.tmod b by omega]
    · rw [if_neg (fun q => c1 ((vL_0 sm).mp ((cmp_0 _ _).mp q))), if_neg c1, Int.mul_sub, Int.mul_one, show a - (b * a.tdiv b - b) = a.tmod b + b by omega]
      show some (Int64.ofInt _ + Int64.ofInt _, σ) = some (Int64.ofInt _, σ)
      rw [Int64.ofInt_add]
theorem joined_X {k : Nat} {a b : Int} (ha : Sm a) (hb : Sm b) (h2 : k < 2 → Tr a ∧ Tr b) (σ : St) : ∃ z : Int, (-1000000000000 ≤ z ∧ z ≤ 1000000000000) ∧ cl z = opv k a b ∧ f_X0_joined (xo k) (vL a) (vL b) σ = some (vL z, σ) := by
  have ho := opv_s ha hb h2
  have hm := mulB ha hb
  have z0 : (0 : Int64).toInt = 0 := rfl
  have hab := ha
  have hbb := hb
  unfold Sm at hab hbb
  have fin : ∀ z, z = opv k a b → f_X0_joined (xo k) (vL a) (vL b) σ = some (vL z, σ) → ∃ z : Int, (-1000000000000 ≤ z ∧ z ≤ 1000000000000) ∧ cl z = opv k a b ∧ f_X0_joined (xo k) (vL a) (vL b) σ = some (vL z, σ) := by
    intro z e q
    have := ho.1
    rw [← e] at this
    refine ⟨z, ?_, by rw [cl_id this, e], q⟩
    unfold Sm at this
    omega
  unfold opv xo at *
  by_cases c0 : k = 0
  · simp only [if_pos c0] at fin ⊢
    obtain ⟨t1, t2⟩ := h2 (by omega)
    refine fin _ rfl ?_
    rw [e_X0_joined]
    simp (config := { decide := true }) only [if_true, if_false]
    rcases t1 with rfl | rfl <;> rcases t2 with rfl | rfl <;> rfl
  simp only [if_neg c0] at fin ⊢
  by_cases c1 : k = 1
  · simp only [if_pos c1] at fin ⊢
    obtain ⟨t1, t2⟩ := h2 (by omega)
    refine fin _ rfl ?_
    rw [e_X0_joined]
    simp (config := { decide := true }) only [if_true, if_false]
    rcases t1 with rfl | rfl <;> rcases t2 with rfl | rfl <;> rfl
  simp only [if_neg c1] at fin ⊢
  by_cases c2 : k = 2
  · simp only [if_pos c2] at fin ⊢
    refine fin _ rfl ?_
    rw [e_X0_joined]
    simp (config := { decide := true }) only [if_true, if_false]
    by_cases c : a < b
    · rw [if_neg (fun q => by rw [cmp_ge, ha.v, hb.v] at q; omega), if_pos c]; rfl
    · rw [if_pos (by rw [cmp_ge, ha.v, hb.v]; omega), if_neg c]; rfl
  simp only [if_neg c2] at fin ⊢
  by_cases c3 : k = 3
  · simp only [if_pos c3] at fin ⊢
    refine fin _ rfl ?_
    rw [e_X0_joined]
    simp (config := { decide := true }) only [if_true, if_false]
    by_cases c : b < a
    · rw [if_neg (fun q => by rw [cmp_le, ha.v, hb.v] at q; omega), if_pos c]; rfl
    · rw [if_pos (by rw [cmp_le, ha.v, hb.v]; omega), if_neg c]; rfl
  simp only [if_neg c3] at fin ⊢
  by_cases c4 : k = 4
  · simp only [if_pos c4] at fin ⊢
    refine fin _ rfl ?_
    rw [e_X0_joined]
    simp (config := { decide := true }) only [if_true, if_false]
    by_cases c : a = b
    · rw [if_pos ((cmp_0 _ _).mpr (by rw [c])), if_pos c]; rfl
    · rw [if_neg (fun q => c (by have := congrArg Int64.toInt ((cmp_0 _ _).mp q); rw [ha.v, hb.v] at this; exact this)), if_neg c]; rfl
  simp only [if_neg c4] at fin ⊢
  by_cases c5 : k = 5
  · simp only [if_pos c5] at fin ⊢
    refine ⟨a + b, by omega, rfl, ?_⟩
    rw [e_X0_joined]
    simp (config := { decide := true }) only [if_true, if_false]
    show some (Int64.ofInt _ + Int64.ofInt _, σ) = some (Int64.ofInt _, σ)
    rw [Int64.ofInt_add]
  simp only [if_neg c5] at fin ⊢
  by_cases c6 : k = 6
  · simp only [if_pos c6] at fin ⊢
    refine ⟨a - b, by omega, rfl, ?_⟩
    rw [e_X0_joined]
    simp (config := { decide := true }) only [if_true, if_false]
    show some (Int64.ofInt _ - Int64.ofInt _, σ) = some (Int64.ofInt _, σ)
    rw [Int64.ofInt_sub]
  simp only [if_neg c6] at fin ⊢
  by_cases c7 : k = 7
  · simp only [if_pos c7] at fin ⊢
    refine ⟨a * b, hm, rfl, ?_⟩
    rw [e_X0_joined]
    simp (config := { decide := true }) only [if_true, if_false]
    show some (Int64.ofInt _ * Int64.ofInt _, σ) = some (Int64.ofInt _, σ)
    rw [Int64.ofInt_mul]
  simp only [if_neg c7] at fin ⊢
  by_cases c8 : k = 8
  · simp only [if_pos c8] at fin ⊢
    refine fin _ rfl ?_
    rw [e_X0_joined]
    simp (config := { decide := true }) only [if_true, if_false]
    by_cases c : b = 0
    · rw [if_pos ((cmp_0 _ _).mpr ((vL_0 hb).mpr c)), dv, if_pos c]; rfl
    · rw [if_neg (fun q => c ((vL_0 hb).mp ((cmp_0 _ _).mp q))), fdiv_X ha hb c]; rfl
  simp only [if_neg c8] at fin ⊢
  by_cases c9 : k = 9
  · simp only [if_pos c9] at fin ⊢
    refine fin _ rfl ?_
    rw [e_X0_joined]
    simp (config := { decide := true }) only [if_true, if_false]
    by_cases c : b = 0
    · rw [if_pos ((cmp_0 _ _).mpr ((vL_0 hb).mpr c)), dm, if_pos c]; rfl
    · rw [if_neg (fun q => c ((vL_0 hb).mp ((cmp_0 _ _).mp q))), fmod_X ha hb c]; rfl
  simp only [if_neg c9] at fin ⊢
  by_cases c10 : k = 10
  · simp only [if_pos c10] at fin ⊢
    refine fin _ rfl ?_
    rw [e_X0_joined]
    simp (config := { decide := true }) only [if_true, if_false]
    rw [e_J9_min_f86c9]
    by_cases c : b < a
    · rw [if_pos (by rw [cmp_gt, ha.v, hb.v]; exact c), if_pos (by omega)]; rfl
    · rw [if_neg (fun q => by rw [cmp_gt, ha.v, hb.v] at q; exact c q)]
      by_cases c' : b ≤ a
      · rw [if_pos c', show a = b by omega]; rfl
      · rw [if_neg c']; rfl
  simp only [if_neg c10] at fin ⊢
  refine fin _ rfl ?_
  rw [e_X0_joined]
  simp (config := { decide := true }) only [if_true, if_false]
  rw [e_J9_max_f86c9]
  by_cases c : a < b
  · rw [if_pos (by rw [cmp_lt, ha.v, hb.v]; exact c), if_pos (by omega)]; rfl
  · rw [if_neg (fun q => by rw [cmp_lt, ha.v, hb.v] at q; exact c q)]
    by_cases c' : a ≤ b
    · rw [if_pos c', show a = b by omega]; rfl
    · rw [if_neg c']; rfl
theorem made_M {k : Nat} {a b : Int} (ha : Sm a) (hb : Sm b) (h2 : k < 2 → Tr a ∧ Tr b) (σ : St) : f_X11_made (mo k) (vL a) (vL b) σ = some (vL (opv k a b), σ) := by
  have hm := mulB ha hb
  have z0 : (0 : Int64).toInt = 0 := rfl
  have hab := ha
  have hbb := hb
  unfold Sm at hab hbb
  have a1 : vL a + vL b = vL (a + b) := by show Int64.ofInt _ + Int64.ofInt _ = Int64.ofInt _; rw [Int64.ofInt_add]
  have a2 : vL a - vL b = vL (a - b) := by show Int64.ofInt _ - Int64.ofInt _ = Int64.ofInt _; rw [Int64.ofInt_sub]
  have a3 : vL a * vL b = vL (a * b) := by show Int64.ofInt _ * Int64.ofInt _ = Int64.ofInt _; rw [Int64.ofInt_mul]
  rw [e_X11_made]
  unfold opv mo at *
  by_cases c0 : k = 0
  · simp only [if_pos c0]
    simp (config := { decide := true }) only [if_true, if_false]
    rw [a1]
    have t : (vL (a + b)).toInt = a + b := vL_t (by omega) (by omega)
    by_cases c : a + b ≤ 0
    · rw [if_pos (by rw [cmp_le, t, z0]; exact c), if_pos c]; rfl
    · rw [if_neg (fun q => by rw [cmp_le, t, z0] at q; exact c q), if_neg c]; rfl
  simp only [if_neg c0]
  by_cases c1 : k = 1
  · simp only [if_pos c1]
    simp (config := { decide := true }) only [if_true, if_false]
    rw [a3]
  simp only [if_neg c1]
  by_cases c2 : k = 2
  · simp only [if_pos c2]
    simp (config := { decide := true }) only [if_true, if_false]
    by_cases c : a < b
    · rw [if_neg (fun q => by rw [cmp_ge, ha.v, hb.v] at q; omega), if_pos c]; rfl
    · rw [if_pos (by rw [cmp_ge, ha.v, hb.v]; omega), if_neg c]; rfl
  simp only [if_neg c2]
  by_cases c3 : k = 3
  · simp only [if_pos c3]
    simp (config := { decide := true }) only [if_true, if_false]
    by_cases c : b < a
    · rw [if_neg (fun q => by rw [cmp_le, ha.v, hb.v] at q; omega), if_pos c]; rfl
    · rw [if_pos (by rw [cmp_le, ha.v, hb.v]; omega), if_neg c]; rfl
  simp only [if_neg c3]
  by_cases c4 : k = 4
  · simp only [if_pos c4]
    simp (config := { decide := true }) only [if_true, if_false]
    by_cases c : a = b
    · rw [if_pos ((cmp_0 _ _).mpr (by rw [c])), if_pos c]; rfl
    · rw [if_neg (fun q => c (by have := congrArg Int64.toInt ((cmp_0 _ _).mp q); rw [ha.v, hb.v] at this; exact this)), if_neg c]; rfl
  simp only [if_neg c4]
  by_cases c5 : k = 5
  · simp only [if_pos c5]
    simp (config := { decide := true }) only [if_true, if_false]
    rw [a1, bounded_M (by omega) (by omega)]; rfl
  simp only [if_neg c5]
  by_cases c6 : k = 6
  · simp only [if_pos c6]
    simp (config := { decide := true }) only [if_true, if_false]
    rw [a2, bounded_M (by omega) (by omega)]; rfl
  simp only [if_neg c6]
  by_cases c7 : k = 7
  · simp only [if_pos c7]
    simp (config := { decide := true }) only [if_true, if_false]
    rw [a3, bounded_M hm.1 hm.2]; rfl
  simp only [if_neg c7]
  by_cases c8 : k = 8
  · simp only [if_pos c8]
    simp (config := { decide := true }) only [if_true, if_false]
    rw [over_M ha hb]; rfl
  simp only [if_neg c8]
  by_cases c9 : k = 9
  · simp only [if_pos c9]
    simp (config := { decide := true }) only [if_true, if_false]
    by_cases c : b = 0
    · rw [if_pos ((cmp_0 _ _).mpr ((vL_0 hb).mpr c)), dm, if_pos c]; rfl
    · rw [if_neg (fun q => c ((vL_0 hb).mp ((cmp_0 _ _).mp q))), over_M ha hb, dm, if_neg c]
      show some (Int64.ofInt _ - Int64.ofInt _ * Int64.ofInt _, σ) = some (Int64.ofInt _, σ)
      rw [← Int64.ofInt_mul, ← Int64.ofInt_sub]
  simp only [if_neg c9]
  by_cases c10 : k = 10
  · simp only [if_pos c10]
    simp (config := { decide := true }) only [if_true, if_false]
    by_cases c : b ≤ a
    · rw [if_pos (by rw [cmp_ge, ha.v, hb.v]; exact c), if_pos c]
    · rw [if_neg (fun q => by rw [cmp_ge, ha.v, hb.v] at q; exact c q), if_neg c]
  simp only [if_neg c10]
  simp (config := { decide := true }) only [if_true, if_false]
  by_cases c : a ≤ b
  · rw [if_pos (by rw [cmp_le, ha.v, hb.v]; exact c), if_pos c]
  · rw [if_neg (fun q => by rw [cmp_le, ha.v, hb.v] at q; exact c q), if_neg c]
