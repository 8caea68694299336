/-! ===== two titles in a row ===== -/
theorem pk5_drop {l : List Nat} (h : ∀ c ∈ l, c < 26) (i : Nat) : pk5 l / 32 ^ i = pk5 (l.drop i) := by
  induction l generalizing i with
  | nil => simp [pk5]
  | cons c l ih =>
    have h2 := h c List.mem_cons_self
    cases i with
    | zero => simp
    | succ i =>
      rw [List.drop_succ_cons, ← ih (fun c hc => h c (List.mem_cons_of_mem _ hc)) i, Nat.pow_succ, Nat.mul_comm (32 ^ i) 32, ← Nat.div_div_eq_div_mul]
      congr 1
      simp only [pk5]
      omega
theorem pk5_take {l : List Nat} (h : ∀ c ∈ l, c < 26) (i : Nat) : pk5 l % 32 ^ i = pk5 (l.take i) := by
  induction l generalizing i with
  | nil => simp [pk5]
  | cons c l ih =>
    have h2 := h c List.mem_cons_self
    cases i with
    | zero => simp [pk5, Nat.mod_one]
    | succ i =>
      rw [List.take_succ_cons, pk5, pk5, ← ih (fun c hc => h c (List.mem_cons_of_mem _ hc)) i, Nat.pow_succ, Nat.mul_comm (32 ^ i) 32, Nat.mod_mul]
      have e1 : (c + 1 + 32 * pk5 l) % 32 = c + 1 := by omega
      have e2 : (c + 1 + 32 * pk5 l) / 32 = pk5 l := by omega
      rw [e1, e2]
theorem pk5_inj {l k : List Nat} (h : ∀ c ∈ l, c < 26) (h' : ∀ c ∈ k, c < 26) (e : pk5 l = pk5 k) : l = k := by
  induction l generalizing k with
  | nil =>
    cases k with
    | nil => rfl
    | cons d k => simp only [pk5] at e; omega
  | cons c l ih =>
    have h2 := h c List.mem_cons_self
    cases k with
    | nil => simp only [pk5] at e; omega
    | cons d k =>
      have h3 := h' d List.mem_cons_self
      simp only [pk5] at e
      have e1 : c = d := by omega
      have e2 : pk5 l = pk5 k := by omega
      rw [e1, ih (fun c hc => h c (List.mem_cons_of_mem _ hc)) (fun c hc => h' c (List.mem_cons_of_mem _ hc)) e2]
theorem mk_5 : ∀ n, n < 7 → (((1 : Int32) <<< ((nI n * 5) &&& 31)) - 1).toBitVec.toNat = 2 ^ (5 * n) - 1 := by decide +kernel
theorem start_X {l : List Nat} (h : ∀ c ∈ l, c < 26) (h6 : l.length ≤ 6) {n : Nat} (hn : n ≤ 6) (σ : St) : f_X4_start (nI (pk5 l)) (nI n) σ = some (nI (pk5 (l.take n)), σ) := by
  have := pk5_30 h h6
  rw [e_X4_start, pk_andN (by omega) (5 * n) (mk_5 n (by omega)), Nat.pow_mul, show (2 : Nat) ^ 5 = 32 from rfl, pk5_take h]
theorem shr5_X {l : List Nat} (h : ∀ c ∈ l, c < 26) (h6 : l.length ≤ 6) {n : Nat} (hn : n < 6) : nI (pk5 l) >>> ((nI n * 5) &&& 31) = nI (pk5 (l.drop n)) := by
  have := pk5_30 h h6
  rw [pk_shrN (by omega) _ (5 * n) (sh_5 n hn), Nat.pow_mul, show (2 : Nat) ^ 5 = 32 from rfl, pk5_drop h]
theorem drop_c {l : List Nat} (h : ∀ c ∈ l, c < 26) (i : Nat) : ∀ c ∈ l.drop i, c < 26 := fun c hc => h c (List.mem_of_mem_drop hc)
theorem take_c {l : List Nat} (h : ∀ c ∈ l, c < 26) (i : Nat) : ∀ c ∈ l.take i, c < 26 := fun c hc => h c (List.mem_of_mem_take hc)
theorem drop_6 {l : List Nat} (h : l.length ≤ 6) (i : Nat) : (l.drop i).length ≤ 6 := by rw [List.length_drop]; omega
theorem take_6 {l : List Nat} (h : l.length ≤ 6) (i : Nat) : (l.take i).length ≤ 6 := by rw [List.length_take]; omega
theorem pk5_eq {l k : List Nat} (h : ∀ c ∈ l, c < 26) (h6 : l.length ≤ 6) (h' : ∀ c ∈ k, c < 26) (h6' : k.length ≤ 6) : nI (pk5 l) = nI (pk5 k) ↔ l = k := by
  have h1 := pk5_30 h h6
  have h2 := pk5_30 h' h6'
  constructor
  · intro e; exact pk5_inj h h' ((nI_eq (by omega) (by omega)).mp e)
  · intro e; rw [e]
/-- does q stand whole in p? -/
def Win (p q : List Nat) : Prop := ∃ i, i + p.length ≤ q.length ∧ (q.drop i).take p.length = p
theorem within_X {p q : List Nat} (hp : ∀ c ∈ p, c < 26) (p6 : p.length ≤ 6) (p1 : 1 ≤ p.length) (hq : ∀ c ∈ q, c < 26) (q6 : q.length ≤ 6) (σ : St) : ∃ b : Bool, (b = true ↔ Win p q) ∧ f_X4_isWithin (nI (pk5 p)) (nI (pk5 q)) σ = some (bi b, σ) := by
  rw [e_X4_isWithin, len_X hp p6]
  dsimp only [Option.bind]
  rw [len_X hq q6]
  dsimp only [ltt]
  by_cases c : p.length ≤ q.length
  · rw [pk_sub c]
    have key : ∀ d i n, i + d = q.length - p.length + 1 → d < n → (∀ j, j < i → ¬ (q.drop j).take p.length = p) → ∃ b : Bool, (b = true ↔ Win p q) ∧ f_X4_isWithin_15 n (nI (pk5 p)) (nI (pk5 q)) (nI p.length) (nI (q.length - p.length)) (nI i) σ = some (bi b, σ) := by
      intro d
      induction d with
      | zero =>
        intro i n hi hn hno
        obtain ⟨n, rfl⟩ : ∃ k, n = k + 1 := ⟨n - 1, by omega⟩
        refine ⟨false, ⟨fun h => (by cases h), fun ⟨j, h1, h2⟩ => absurd h2 (hno j (by omega))⟩, ?_⟩
        rw [e_X4_isWithin_15, if_pos (nI_lt (by omega) (by omega))]
        rfl
      | succ d ih =>
        intro i n hi hn hno
        obtain ⟨n, rfl⟩ : ∃ k, n = k + 1 := ⟨n - 1, by omega⟩
        rw [e_X4_isWithin_15, if_neg (nI_nlt (by omega) (by omega)), shr5_X hq q6 (by omega), start_X (drop_c hq i) (drop_6 q6 i) p6]
        dsimp only [Option.bind]
        by_cases e : (q.drop i).take p.length = p
        · refine ⟨true, ⟨fun _ => ⟨i, by omega, e⟩, fun _ => rfl⟩, ?_⟩
          rw [e, if_pos rfl]
          rfl
        · rw [if_neg (fun w => e ((pk5_eq (take_c (drop_c hq i) _) (take_6 (drop_6 q6 i) _) hp p6).mp w)), nI_1]
          refine ih (i + 1) n (by omega) (by omega) (fun j hj => ?_)
          rcases Nat.lt_or_ge j i with w | w
          · exact hno j w
          · have : j = i := by omega
            rw [this]; exact e
    exact key (q.length - p.length + 1) 0 FU (by omega) (by rw [FU_eq]; omega) (fun j hj => by omega)
  · refine ⟨false, ⟨fun h => (by cases h), fun ⟨j, h1, h2⟩ => by omega⟩, ?_⟩
    obtain ⟨n, hn⟩ : ∃ k, FU = k + 1 := ⟨FU - 1, by rw [FU_eq]⟩
    rw [hn, e_X4_isWithin_15, if_pos (show nI q.length - nI p.length < 0 from pk_sneg (by omega) (by omega))]
    rfl
/-- the longest end of p that q begins with -/
def Jnt (p q : List Nat) (n : Nat) : Prop := n ≤ p.length ∧ n ≤ q.length ∧ p.drop (p.length - n) = q.take n ∧ ∀ j, n < j → j ≤ p.length → j ≤ q.length → ¬ p.drop (p.length - j) = q.take j
theorem joint_X {p q : List Nat} (hp : ∀ c ∈ p, c < 26) (p6 : p.length ≤ 6) (hq : ∀ c ∈ q, c < 26) (q6 : q.length ≤ 6) (σ : St) : ∃ n, Jnt p q n ∧ f_X4_joint (nI (pk5 p)) (nI (pk5 q)) σ = some (nI n, σ) := by
  rw [e_X4_joint, len_X hp p6]
  dsimp only [Option.bind]
  rw [len_X hq q6]
  dsimp only
  have key : ∀ d n, d ≤ p.length → d ≤ q.length → d < n → (∀ j, d < j → j ≤ p.length → j ≤ q.length → ¬ p.drop (p.length - j) = q.take j) → ∃ k, Jnt p q k ∧ f_X4_joint_14 n (nI (pk5 p)) (nI (pk5 q)) (nI p.length) (nI d) σ = some (nI k, σ) := by
    intro d
    induction d with
    | zero =>
      intro n h1 h2 hn hno
      obtain ⟨n, rfl⟩ : ∃ k, n = k + 1 := ⟨n - 1, by omega⟩
      refine ⟨0, ⟨by omega, by omega, by simp, hno⟩, ?_⟩
      rw [e_X4_joint_14, if_pos (by decide)]
      rfl
    | succ d ih =>
      intro n h1 h2 hn hno
      obtain ⟨n, rfl⟩ : ∃ k, n = k + 1 := ⟨n - 1, by omega⟩
      rw [e_X4_joint_14, if_neg (nI_nle (by omega) (by omega)), start_X hq q6 (by omega), pk_sub (by omega), shr5_X hp p6 (by omega)]
      dsimp only [Option.bind]
      by_cases e : p.drop (p.length - (d + 1)) = q.take (d + 1)
      · refine ⟨d + 1, ⟨h1, h2, e, hno⟩, ?_⟩
        rw [e, if_pos rfl]
      · rw [if_neg (fun w => e ((pk5_eq (drop_c hp _) (drop_6 p6 _) (take_c hq _) (take_6 q6 _)).mp w)), pk_m1]
        refine ih n (by omega) (by omega) (by omega) (fun j hj g1 g2 => ?_)
        rcases Nat.lt_or_ge (d + 1) j with w | w
        · exact hno j w g1 g2
        · have : j = d + 1 := by omega
          rw [this]; exact e
  rw [e_J9_min_7cf53]
  by_cases c : q.length < p.length
  · rw [if_pos (nI_lt c (by omega))]
    exact key q.length FU (by omega) (by omega) (by rw [FU_eq]; omega) (fun j h1 h2 h3 => by omega)
  · rw [if_neg (nI_nlt (by omega) (by omega))]
    exact key p.length FU (by omega) (by omega) (by rw [FU_eq]; omega) (fun j h1 h2 h3 => by omega)
theorem nameOz_X {ld : Nat} {l : List Nat} (h : ∀ c ∈ l, c < 26) (h6 : l.length ≤ 6) (σ : St) : f_X4_nameOunces ld (nI (pk5 l)) σ = some (ozS σ (ld + 16) 0 l, σ) := by
  rw [e_X4_nameOunces, len_X h h6]
  dsimp only [Option.bind]
  obtain ⟨a, ea, e⟩ := loop_exF (fun n (a : Int32) i => f_X4_nameOunces_10 ld n (nI (pk5 l)) a (nI l.length) (nI i) σ) (fun a => some (a, σ)) l.length (by omega) (fun i a => a = ozS σ (ld + 16) 0 (l.take i)) (fun n a _ => by
    rw [e_X4_nameOunces_10, if_pos (nI_le (Nat.le_refl _) (by omega))]) (fun n a i hi e => by
    have hl := h _ (List.getElem_mem hi)
    refine ⟨ozS σ (ld + 16) 0 (l.take (i + 1)), ?_, rfl⟩
    rw [e_X4_nameOunces_10, if_neg (nI_ge hi (by omega)), letter_X h h6, if_pos (inb_nI hi (by omega)), ix_nI (by omega), show l.getD i 0 = l[i] by simp [List.getD, hi]]
    dsimp only [Option.bind, ltt]
    rw [ouncesOf_X hl, nI_1, List.take_succ_eq_append_getElem hi, ozS_app, e]
    dsimp only
    rw [ozS, ozS, Int32.zero_add, Nat.zero_add]) 0 rfl
  rw [List.take_length] at ea
  rw [← ea]
  exact e
