/-! ===== the laws' numbers ===== -/
def vI (z : Int) : Int32 := Int32.ofInt z
def vL (z : Int) : Int64 := Int64.ofInt z
theorem vI_t {z : Int} (h1 : -2147483648 ≤ z) (h2 : z < 2147483648) : (vI z).toInt = z := Int32.toInt_ofInt_of_le h1 h2
theorem vL_t {z : Int} (h1 : -9223372036854775808 ≤ z) (h2 : z < 9223372036854775808) : (vL z).toInt = z := Int64.toInt_ofInt_of_le h1 h2
theorem vI_n (n : Nat) : nI n = vI (n : Int) := rfl
theorem vL_I {z : Int} (h1 : -2147483648 ≤ z) (h2 : z < 2147483648) : (vI z).toInt64 = vL z := by
  apply Int64.toInt_inj.mp
  rw [Int32.toInt_toInt64, vI_t h1 h2, vL_t (by omega) (by omega)]
theorem vI_L (z : Int) : (vL z).toInt32 = vI z := Int64.toInt32_ofInt
theorem cmp_0 (a b : Int64) : lg_cmp a b = 0 ↔ a = b := by
  unfold lg_cmp
  by_cases c : a = b
  · simp [c]
  · simp only [c, if_false, iff_false]
    split <;> decide
theorem cmp_le (a b : Int64) : lg_cmp a b ≤ 0 ↔ a.toInt ≤ b.toInt := by
  unfold lg_cmp
  by_cases c : a = b
  · subst c; simp
  · have c' : a.toInt ≠ b.toInt := fun e => c (Int64.toInt_inj.mp e)
    simp only [c, if_false]
    split
    · rename_i h
      have := Int64.lt_iff_toInt_lt.mp h
      exact ⟨fun q => absurd q (by decide), fun _ => by omega⟩
    · rename_i h
      have : ¬ b.toInt < a.toInt := fun q => h (Int64.lt_iff_toInt_lt.mpr q)
      exact ⟨fun q => by omega, fun q => by decide⟩
theorem cmp_ge (a b : Int64) : 0 ≤ lg_cmp a b ↔ b.toInt ≤ a.toInt := by
  unfold lg_cmp
  by_cases c : a = b
  · subst c; simp
  · have c' : a.toInt ≠ b.toInt := fun e => c (Int64.toInt_inj.mp e)
    simp only [c, if_false]
    split
    · rename_i h
      have := Int64.lt_iff_toInt_lt.mp h
      exact ⟨fun _ => by omega, fun _ => by decide⟩
    · rename_i h
      have : ¬ b.toInt < a.toInt := fun q => h (Int64.lt_iff_toInt_lt.mpr q)
      exact ⟨fun q => absurd q (by decide), fun q => absurd (by omega) this⟩
theorem cmp_lt (a b : Int64) : lg_cmp a b < 0 ↔ a.toInt < b.toInt := by
  have := cmp_ge a b
  rw [← Int32.not_le, this]
  omega
theorem cmp_gt (a b : Int64) : 0 < lg_cmp a b ↔ b.toInt < a.toInt := by
  have := cmp_le a b
  rw [← Int32.not_le, this]
  omega
def cl (z : Int) : Int := if 1000000 < z then 1000000 else if z < -1000000 then -1000000 else z
def dv (a b : Int) : Int := if b = 0 then 0 else if a.tmod b = 0 then a.tdiv b else if (a < 0 ↔ b < 0) then a.tdiv b else a.tdiv b - 1
def dm (a b : Int) : Int := if b = 0 then 0 else a - b * dv a b
def opv (k : Nat) (a b : Int) : Int :=
  if k = 0 then (if a + b ≤ 0 then 0 else 1) else if k = 1 then a * b else if k = 2 then (if a < b then 1 else 0) else if k = 3 then (if b < a then 1 else 0) else if k = 4 then (if a = b then 1 else 0)
  else if k = 5 then cl (a + b) else if k = 6 then cl (a - b) else if k = 7 then cl (a * b) else if k = 8 then dv a b else if k = 9 then dm a b else if k = 10 then (if b ≤ a then b else a) else (if a ≤ b then b else a)
def xo (k : Nat) : Int32 := if k = 0 then -7 else if k = 1 then -8 else if k = 2 then -9 else if k = 3 then -10 else if k = 4 then -11 else if k = 5 then -12 else if k = 6 then -13 else if k = 7 then -14 else if k = 8 then -15 else if k = 9 then -16 else if k = 10 then -17 else -18
def mo (k : Nat) : Int32 := if k = 0 then 21 else if k = 1 then 20 else if k = 2 then 17 else if k = 3 then 18 else if k = 4 then 19 else if k = 5 then 10 else if k = 6 then 11 else if k = 7 then 12 else if k = 8 then 13 else if k = 9 then 14 else if k = 10 then 15 else 16
def Sm (a : Int) : Prop := -1000000 ≤ a ∧ a ≤ 1000000
def Tr (a : Int) : Prop := a = 0 ∨ a = 1
theorem cl_s (z : Int) : Sm (cl z) := by unfold cl Sm; split; omega; split <;> omega
theorem Tr.sm {a : Int} (h : Tr a) : Sm a := by rcases h with h | h <;> (unfold Sm; omega)
theorem dv_s {a b : Int} (h : Sm a) : Sm (dv a b) ∧ (¬ b = 0 → ((a - b * dv a b) = 0 ∨ (0 < a - b * dv a b ∧ a - b * dv a b < b) ∨ (b < a - b * dv a b ∧ a - b * dv a b < 0))) := by
  have e1 := Int.natAbs_tdiv a b
  have e2 := Int.natAbs_tmod a b
  have e3 := Int.mul_tdiv_add_tmod a b
  have e4 : (a.tdiv b).natAbs ≤ a.natAbs := by rw [e1]; exact Nat.div_le_self _ _
  have hs : a.tmod b = 0 ∨ (0 < a.tmod b ∧ 0 < a) ∨ (a.tmod b < 0 ∧ a < 0) := by
    rcases Int.lt_trichotomy a 0 with c | c | c
    · have : a.tmod b ≤ 0 := by
        have := Int.tmod_nonneg (a := -a) b (by omega)
        rw [Int.neg_tmod] at this
        omega
      omega
    · subst c; left; exact Int.zero_tmod b
    · have := Int.tmod_nonneg (a := a) b (by omega)
      omega
  unfold dv
  by_cases c0 : b = 0
  · rw [if_pos c0]; exact ⟨by unfold Sm; omega, fun q => absurd c0 q⟩
  rw [if_neg c0]
  have hb : 0 < b.natAbs := by omega
  have e5 : a.natAbs % b.natAbs < b.natAbs := Nat.mod_lt _ hb
  by_cases c1 : a.tmod b = 0
  · rw [if_pos c1]
    refine ⟨?_, fun _ => Or.inl (by omega)⟩
    unfold Sm at h ⊢
    omega
  rw [if_neg c1]
  have hb2 : 2 ≤ b.natAbs := by
    rcases Nat.lt_or_ge b.natAbs 2 with w | w
    · have : b.natAbs = 1 := by omega
      rw [this, Nat.mod_one] at e2
      omega
    · exact w
  have e6 : (a.tdiv b).natAbs ≤ a.natAbs / 2 := by rw [e1]; exact Nat.div_le_div_left hb2 (by omega)
  have e7 : (a.tmod b).natAbs < b.natAbs := by rw [e2]; exact e5
  by_cases c2 : (a < 0 ↔ b < 0)
  · rw [if_pos c2]
    refine ⟨?_, fun _ => ?_⟩
    · unfold Sm at h ⊢; omega
    · rw [show a - b * a.tdiv b = a.tmod b by omega]; omega
  · rw [if_neg c2]
    refine ⟨?_, fun _ => ?_⟩
    · unfold Sm at h ⊢; omega
    · rw [Int.mul_sub, Int.mul_one, show a - (b * a.tdiv b - b) = a.tmod b + b by omega]; omega
theorem dm_s {a b : Int} (ha : Sm a) (hb : Sm b) : Sm (dm a b) := by
  have := (dv_s (b := b) ha).2
  unfold dm
  by_cases c : b = 0
  · rw [if_pos c]; unfold Sm; omega
  · rw [if_neg c]
    have := this c
    unfold Sm at hb ⊢
    omega
theorem opv_s {k : Nat} {a b : Int} (ha : Sm a) (hb : Sm b) (h2 : k < 2 → Tr a ∧ Tr b) : Sm (opv k a b) ∧ (k < 5 → Tr (opv k a b)) := by
  unfold opv
  by_cases c0 : k = 0
  · rw [if_pos c0]
    have : Tr (if a + b ≤ 0 then (0 : Int) else 1) := by unfold Tr; split <;> omega
    exact ⟨this.sm, fun _ => this⟩
  rw [if_neg c0]
  by_cases c1 : k = 1
  · rw [if_pos c1]
    obtain ⟨t1, t2⟩ := h2 (by omega)
    have : Tr (a * b) := by rcases t1 with rfl | rfl <;> rcases t2 with rfl | rfl <;> (unfold Tr; omega)
    exact ⟨this.sm, fun _ => this⟩
  rw [if_neg c1]
  by_cases c2 : k = 2
  · rw [if_pos c2]
    have : Tr (if a < b then (1 : Int) else 0) := by unfold Tr; split <;> omega
    exact ⟨this.sm, fun _ => this⟩
  rw [if_neg c2]
  by_cases c3 : k = 3
  · rw [if_pos c3]
    have : Tr (if b < a then (1 : Int) else 0) := by unfold Tr; split <;> omega
    exact ⟨this.sm, fun _ => this⟩
  rw [if_neg c3]
  by_cases c4 : k = 4
  · rw [if_pos c4]
    have : Tr (if a = b then (1 : Int) else 0) := by unfold Tr; split <;> omega
    exact ⟨this.sm, fun _ => this⟩
  rw [if_neg c4]
  refine ⟨?_, fun q => by omega⟩
  by_cases c5 : k = 5
  · rw [if_pos c5]; exact cl_s _
  rw [if_neg c5]
  by_cases c6 : k = 6
  · rw [if_pos c6]; exact cl_s _
  rw [if_neg c6]
  by_cases c7 : k = 7
  · rw [if_pos c7]; exact cl_s _
  rw [if_neg c7]
  by_cases c8 : k = 8
  · rw [if_pos c8]; exact (dv_s ha).1
  rw [if_neg c8]
  by_cases c9 : k = 9
  · rw [if_pos c9]; exact dm_s ha hb
  rw [if_neg c9]
  by_cases c10 : k = 10
  · rw [if_pos c10]; split <;> assumption
  rw [if_neg c10]
  split <;> assumption
theorem mulB {a b : Int} (ha : Sm a) (hb : Sm b) : -1000000000000 ≤ a * b ∧ a * b ≤ 1000000000000 := by
  have e := Int.natAbs_mul a b
  have h1 : a.natAbs ≤ 1000000 := by unfold Sm at ha; omega
  have h2 : b.natAbs ≤ 1000000 := by unfold Sm at hb; omega
  have h3 : a.natAbs * b.natAbs ≤ 1000000 * 1000000 := Nat.mul_le_mul h1 h2
  omega
theorem Sm.v {a : Int} (h : Sm a) : (vL a).toInt = a := vL_t (by unfold Sm at h; omega) (by unfold Sm at h; omega)
theorem held_X {z : Int} (h1 : -1000000000000 ≤ z) (h2 : z ≤ 1000000000000) (σ : St) : f_X0_held (vL z) σ = some (vI (cl z), σ) := by
  rw [e_X0_held, e_J9_min_f86c9, show (-1000000 : Int64) = vL (-1000000) from rfl, show (1000000 : Int64) = vL 1000000 from rfl]
  have t : (vL z).toInt = z := vL_t (by omega) (by omega)
  have m1 : (vL 1000000).toInt = 1000000 := vL_t (by omega) (by omega)
  have m2 : (vL (-1000000)).toInt = -1000000 := vL_t (by omega) (by omega)
  unfold cl
  by_cases c1 : 1000000 < z
  · rw [if_neg (fun q => by rw [cmp_gt, t, m1] at q; omega), if_pos c1]
    dsimp only [Option.bind]
    rw [e_J9_max_f86c9, if_pos (by rw [cmp_lt, m1, m2]; omega)]
    dsimp only
    rw [vI_L]
  · by_cases c3 : z < 1000000
    · rw [if_pos (by rw [cmp_gt, t, m1]; exact c3), if_neg c1]
      dsimp only [Option.bind]
      rw [e_J9_max_f86c9]
      by_cases c2 : z < -1000000
      · rw [if_neg (fun q => by rw [cmp_lt, t, m2] at q; omega), if_pos c2]
        dsimp only
        rw [vI_L]
      · by_cases c4 : -1000000 < z
        · rw [if_pos (by rw [cmp_lt, t, m2]; exact c4), if_neg c2]
          dsimp only
          rw [vI_L]
        · have : z = -1000000 := by omega
          subst this
          rw [if_neg (fun q => by rw [cmp_lt, m2] at q; omega), if_neg c2]
          dsimp only
          rw [vI_L]
    · have : z = 1000000 := by omega
      subst this
      rw [if_neg (fun q => by rw [cmp_gt, m1] at q; omega), if_neg c1]
      dsimp only [Option.bind]
      rw [e_J9_max_f86c9, if_pos (by rw [cmp_lt, m1, m2]; omega), if_neg (by omega)]
      dsimp only
      rw [vI_L]
theorem cl_id {z : Int} (h : Sm z) : cl z = z := by unfold Sm at h; unfold cl; rw [if_neg (by omega), if_neg (by omega)]
theorem bounded_M {z : Int} (h1 : -1000000000000 ≤ z) (h2 : z ≤ 1000000000000) (σ : St) : f_X11_bounded (vL z) σ = some (vL (cl z), σ) := by
  rw [e_X11_bounded, show (-1000000 : Int64) = vL (-1000000) from rfl, show (1000000 : Int64) = vL 1000000 from rfl]
  have t : (vL z).toInt = z := vL_t (by omega) (by omega)
  have m1 : (vL 1000000).toInt = 1000000 := vL_t (by omega) (by omega)
  have m2 : (vL (-1000000)).toInt = -1000000 := vL_t (by omega) (by omega)
  unfold cl
  by_cases c1 : 1000000 < z
  · rw [if_neg (fun q => by rw [cmp_le, t, m1] at q; omega), if_pos c1]
  · rw [if_pos (by rw [cmp_le, t, m1]; omega), if_neg c1]
    by_cases c2 : z < -1000000
    · rw [if_neg (fun q => by rw [cmp_ge, t, m2] at q; omega), if_pos c2]
    · rw [if_pos (by rw [cmp_ge, t, m2]; omega), if_neg c2]
theorem vL_0 {b : Int} (hb : Sm b) : vL b = 0 ↔ b = 0 := by
  constructor
  · intro e
    have := congrArg Int64.toInt e
    rw [hb.v] at this
    exact this
  · intro e; rw [e]; rfl
theorem div_L {a b : Int} (ha : Sm a) (hb : Sm b) : vL a / vL b = vL (a.tdiv b) := by
  apply Int64.toInt_inj.mp
  have e1 := Int.natAbs_tdiv a b
  have e4 : (a.tdiv b).natAbs ≤ a.natAbs := by rw [e1]; exact Nat.div_le_self _ _
  have ha' := ha
  unfold Sm at ha'
  rw [Int64.toInt_div_of_ne_left _ _ (fun e => by
    have := congrArg Int64.toInt e
    rw [Sm.v ha] at this
    have m : Int64.minValue.toInt = -9223372036854775808 := rfl
    omega), Sm.v ha, hb.v, vL_t (by omega) (by omega)]
theorem rem_L {a b : Int} (ha : Sm a) (hb : Sm b) : jlrem (vL a) (vL b) = vL (a.tmod b) := by
  have e3 := Int.mul_tdiv_add_tmod a b
  rw [jlrem, div_L ha hb]
  show Int64.ofInt a - Int64.ofInt _ * Int64.ofInt b = _
  rw [← Int64.ofInt_mul, ← Int64.ofInt_sub, Int.mul_comm]
  show vL _ = vL _
  congr 1
  omega
