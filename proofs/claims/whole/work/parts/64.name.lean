/-! ===== names: five bits a letter, eight bits a letter ===== -/
theorem lU {n : Nat} (h : n < 2 ^ 64) : (lN n).toUInt64 = UInt64.ofNat n := by
  apply UInt64.toBitVec_inj.mp
  rfl
theorem jl_sh {a k : Nat} (ha : a < 2 ^ 63) (hk : k < 64) (y : Int32) (hy : (y.toInt64.toUInt64 &&& Int64.toUInt64 63) = UInt64.ofNat k) : jlush (lN a) y = lN (a / 2 ^ k) := by
  rw [jlush, hy, lU (by omega)]
  apply Int64.toBitVec_inj.mp
  apply BitVec.eq_of_toNat_eq
  show (UInt64.ofNat a >>> UInt64.ofNat k).toNat = (BitVec.ofNat 64 (a / 2 ^ k)).toNat
  rw [UInt64.toNat_shiftRight, UInt64.toNat_ofNat_of_lt' (by simp [UInt64.size]; omega), UInt64.toNat_ofNat_of_lt' (by simp [UInt64.size]; omega), BitVec.toNat_ofNat, Nat.mod_eq_of_lt hk, Nat.shiftRight_eq_div_pow]
  exact (Nat.mod_eq_of_lt (Nat.lt_of_le_of_lt (Nat.div_le_self _ _) (by omega))).symm
theorem jl_c : ∀ j, j < 8 → (((8 : Int32) * nI j).toInt64.toUInt64 &&& Int64.toUInt64 63) = UInt64.ofNat (8 * j) := by decide +kernel
theorem jl_8 {a : Nat} (ha : a < 2 ^ 63) : jlush (lN a) 8 = lN (a / 256) := jl_sh (k := 8) ha (by omega) 8 (by decide +kernel)
theorem jl_8j {a j : Nat} (ha : a < 2 ^ 63) (hj : j < 8) : jlush (lN a) (8 * nI j) = lN (a / 256 ^ j) := by
  rw [jl_sh (k := 8 * j) ha (by omega) _ (jl_c j hj), Nat.pow_mul]
theorem l_255 {a : Nat} (ha : a < 2 ^ 63) : (lN a &&& 255).toInt32 = nI (a % 256) := by
  have e : lN a &&& 255 = lN (a % 256) := by
    apply Int64.toBitVec_inj.mp
    apply BitVec.eq_of_toNat_eq
    rw [Int64.toBitVec_and, BitVec.toNat_and]
    have h1 : (lN a).toBitVec.toNat = a := by
      show (BitVec.ofNat 64 a).toNat = a
      rw [BitVec.toNat_ofNat]; exact Nat.mod_eq_of_lt (by omega)
    have h2 : (lN (a % 256)).toBitVec.toNat = a % 256 := by
      show (BitVec.ofNat 64 (a % 256)).toNat = a % 256
      rw [BitVec.toNat_ofNat]; exact Nat.mod_eq_of_lt (by omega)
    rw [h1, h2]
    have h3 : ((255 : Int64).toBitVec).toNat = 2 ^ 8 - 1 := by decide +kernel
    rw [h3, Nat.and_two_pow_sub_one_eq_mod]
  rw [e, lN_i]
theorem l_cmp0 {a : Nat} (ha : a < 2 ^ 63) : (lg_cmp (lN a) 0 = 0) ↔ a = 0 := by
  have h0 : (lN a = 0) ↔ a = 0 := pk_lEQ (b := 0) ha (by omega)
  constructor
  · intro h
    apply h0.mp
    by_cases c : lN a = 0
    · exact c
    · exfalso
      revert h
      simp only [lg_cmp, c, if_false]
      split <;> decide
  · intro h
    subst h
    decide +kernel
theorem sh_5 : ∀ j, j < 6 → (((nI j * 5) &&& 31).toBitVec.smod 32).toNat = 5 * j := by decide +kernel
theorem wd5 {w j : Nat} (hw : w < 2 ^ 31) (hj : j < 6) : (nI w >>> ((nI j * 5) &&& 31)) &&& 31 = nI (w / 32 ^ j % 32) := by
  rw [pk_shrN hw _ (5 * j) (sh_5 j hj), pk_andN (Nat.lt_of_le_of_lt (Nat.div_le_self _ _) (by omega)) 5 (by decide +kernel), Nat.pow_mul]
theorem pk5_lt {l : List Nat} (h : ∀ c ∈ l, c < 26) : pk5 l < 32 ^ l.length := by
  induction l with
  | nil => simp [pk5]
  | cons c l ih =>
    have h1 := ih (fun c hc => h c (List.mem_cons_of_mem _ hc))
    have h2 := h c (List.mem_cons_self)
    simp only [pk5, List.length_cons, Nat.pow_succ]
    omega
theorem pk5_30 {l : List Nat} (h : ∀ c ∈ l, c < 26) (h6 : l.length ≤ 6) : pk5 l < 2 ^ 30 := by
  have h1 := pk5_lt h
  have h2 : 32 ^ l.length ≤ 32 ^ 6 := Nat.pow_le_pow_right (by omega) h6
  have : (32 : Nat) ^ 6 = 2 ^ 30 := by decide
  omega
def at5 (l : List Nat) (j : Nat) : Nat := match l[j]? with | some c => c + 1 | none => 0
theorem pk5_at {l : List Nat} (h : ∀ c ∈ l, c < 26) (j : Nat) : pk5 l / 32 ^ j % 32 = at5 l j := by
  induction l generalizing j with
  | nil => simp [pk5, at5]
  | cons c l ih =>
    have h2 := h c (List.mem_cons_self)
    cases j with
    | zero => simp only [pk5, at5, Nat.pow_zero, Nat.div_one, List.getElem?_cons_zero]; omega
    | succ j =>
      have h3 := ih (fun c hc => h c (List.mem_cons_of_mem _ hc)) j
      simp only [pk5, at5, List.getElem?_cons_succ] at h3 ⊢
      rw [← h3, Nat.pow_succ, Nat.mul_comm (32 ^ j) 32, ← Nat.div_div_eq_div_mul]
      congr 2
      omega
/-- the reversed name's eight bits -/
def pk8r : List Nat → Nat
  | [] => 0
  | c :: l => (c + 97) + 256 * pk8r l
theorem pk8r_app (l : List Nat) (c : Nat) : pk8r (l ++ [c]) = pk8r l + 256 ^ l.length * (c + 97) := by
  induction l with
  | nil => simp [pk8r]
  | cons d l ih =>
    simp only [List.cons_append, pk8r, ih, List.length_cons, Nat.pow_succ]
    rw [Nat.mul_comm (256 ^ l.length) 256, Nat.mul_assoc]
    omega
theorem pk8_r (l : List Nat) : pk8 l = pk8r l.reverse := by
  have : ∀ (l : List Nat) w, l.foldl (fun w c => 256 * w + (c + 97)) w = pk8r (l.reverse) + 256 ^ l.length * w := by
    intro l
    induction l with
    | nil => intro w; simp [pk8r]
    | cons c l ih =>
      intro w
      rw [List.foldl_cons, ih, List.reverse_cons, pk8r_app, List.length_reverse, List.length_cons, Nat.pow_succ, Nat.mul_add, ← Nat.mul_assoc]
      omega
  rw [pk8, this]; simp
theorem pk8r_lt {l : List Nat} (h : ∀ c ∈ l, c < 26) : pk8r l < 256 ^ l.length := by
  induction l with
  | nil => simp [pk8r]
  | cons c l ih =>
    have h1 := ih (fun c hc => h c (List.mem_cons_of_mem _ hc))
    have h2 := h c (List.mem_cons_self)
    simp only [pk8r, List.length_cons, Nat.pow_succ]
    omega
theorem pk8r_48 {l : List Nat} (h : ∀ c ∈ l, c < 26) (h6 : l.length ≤ 6) : pk8r l < 2 ^ 48 := by
  have h1 := pk8r_lt h
  have h2 : 256 ^ l.length ≤ 256 ^ 6 := Nat.pow_le_pow_right (by omega) h6
  have : (256 : Nat) ^ 6 = 2 ^ 48 := by decide
  omega
theorem pk8r_at {l : List Nat} (h : ∀ c ∈ l, c < 26) (j : Nat) : pk8r l / 256 ^ j % 256 = match l[j]? with | some c => c + 97 | none => 0 := by
  induction l generalizing j with
  | nil => simp [pk8r]
  | cons c l ih =>
    have h2 := h c (List.mem_cons_self)
    cases j with
    | zero =>
      simp only [pk8r, Nat.pow_zero, Nat.div_one, List.getElem?_cons_zero]
      show (c + 97 + 256 * pk8r l) % 256 = c + 97
      omega
    | succ j =>
      have h3 := ih (fun c hc => h c (List.mem_cons_of_mem _ hc)) j
      simp only [pk8r, List.getElem?_cons_succ] at h3 ⊢
      rw [← h3, Nat.pow_succ, Nat.mul_comm (256 ^ j) 256, ← Nat.div_div_eq_div_mul]
      congr 2
      omega
-- what each side reads of a name
theorem letter_X {l : List Nat} (h : ∀ c ∈ l, c < 26) (h6 : l.length ≤ 6) (b : Int32) (σ : St) : f_X8_letterOf (nI (pk5 l)) b σ = some ((if inb b l.length = true then nI (l.getD (ix b) 0) else -1), σ) := by
  rw [e_X8_letterOf]
  by_cases c0 : b < 0
  · rw [if_pos c0, inb_neg c0, if_neg (by decide)]
  · rw [if_neg c0]
    obtain ⟨j, hj, rfl⟩ := nI_of c0
    by_cases c1 : j < 6
    · rw [if_pos (show nI j < (6 : Int32) from nI_lt (b := 6) c1 (by omega)), wd5 (by have := pk5_30 h h6; omega) c1, pk5_at h, at5]
      by_cases c2 : j < l.length
      · rw [inb_nI c2 (by omega), if_pos rfl, ix_nI hj, List.getElem?_eq_getElem c2, show l.getD j 0 = l[j] by simp [List.getD, c2]]
        dsimp only
        rw [nI_pred]
      · rw [inb_big hj (by omega), if_neg (by decide), List.getElem?_eq_none (by omega)]
        rfl
    · rw [if_neg (show ¬ nI j < (6 : Int32) from nI_nlt (b := 6) (by omega) hj), inb_big hj (by omega), if_neg (by decide)]
theorem len_X {l : List Nat} (h : ∀ c ∈ l, c < 26) (h6 : l.length ≤ 6) (σ : St) : f_X8_lengthOf (nI (pk5 l)) σ = some (nI l.length, σ) := by
  have key : ∀ d j n, d + j = l.length → d < n → f_X8_lengthOf_2 n (nI (pk5 l)) (nI j) σ = some (nI l.length, σ) := by
    intro d
    induction d with
    | zero =>
      intro j n hj hn
      obtain ⟨n, rfl⟩ : ∃ k, n = k + 1 := ⟨n - 1, by omega⟩
      rw [e_X8_lengthOf_2]
      have e : j = l.length := by omega
      by_cases c : 6 ≤ j
      · rw [if_pos (show (6 : Int32) ≤ nI j from nI_le (a := 6) c (by omega)), e]
      · rw [if_neg (show ¬ (6 : Int32) ≤ nI j from nI_ge (b := 6) (by omega) (by omega)), wd5 (by have := pk5_30 h h6; omega) (by omega), pk5_at h, at5, List.getElem?_eq_none (by omega)]
        dsimp only
        rw [if_pos nI_0, e]
    | succ d ih =>
      intro j n hj hn
      obtain ⟨n, rfl⟩ : ∃ k, n = k + 1 := ⟨n - 1, by omega⟩
      have c2 : j < l.length := by omega
      have hl := h _ (List.getElem_mem c2)
      rw [e_X8_lengthOf_2, if_neg (show ¬ (6 : Int32) ≤ nI j from nI_ge (b := 6) (by omega) (by omega)), wd5 (by have := pk5_30 h h6; omega) (by omega), pk5_at h, at5, List.getElem?_eq_getElem c2]
      dsimp only
      rw [if_neg (nI_ne0 (by omega) (by omega)), nI_1]
      exact ih (j + 1) n (by omega) (by omega)
  rw [e_X8_lengthOf]
  exact key l.length 0 FU (by omega) (by rw [FU_eq]; omega)
theorem len_M {l : List Nat} (h : ∀ c ∈ l, c < 26) (h6 : l.length ≤ 6) : ∀ (a n : Nat) (σ : St), l.length < n → f_X11_lengthOf_17 n (nI a) (lN (pk8r l)) σ = some (nI (a + l.length), σ) := by
  induction l with
  | nil =>
    intro a n σ hn
    obtain ⟨n, rfl⟩ : ∃ k, n = k + 1 := ⟨n - 1, by omega⟩
    rw [e_X11_lengthOf_17, if_pos ((l_cmp0 (a := pk8r []) (by simp [pk8r])).mpr rfl)]
    rfl
  | cons c l ih =>
    intro a n σ hn
    have hb := pk8r_48 h h6
    simp only [List.length_cons] at h6 hn
    obtain ⟨n, rfl⟩ : ∃ k, n = k + 1 := ⟨n - 1, by omega⟩
    have hc := h c (List.mem_cons_self)
    rw [e_X11_lengthOf_17, if_neg (fun q => by have := (l_cmp0 (by omega)).mp q; simp only [pk8r] at this; omega)]
    dsimp only [ltt]
    rw [jl_8 (by omega), show pk8r (c :: l) / 256 = pk8r l by simp only [pk8r]; omega, nI_1, ih (fun c hc => h c (List.mem_cons_of_mem _ hc)) (by omega) _ _ _ (by omega), List.length_cons, show a + 1 + l.length = a + (l.length + 1) by omega]
theorem oft_M {l : List Nat} (h : ∀ c ∈ l, c < 26) (h6 : l.length ≤ 6) {k : Nat} (hk : k < 26) : ∀ (a n : Nat) (σ : St), l.length < n → f_X11_often_18 n (nI k) (nI a) (lN (pk8r l)) σ = some (nI (a + l.count k), σ) := by
  induction l with
  | nil =>
    intro a n σ hn
    obtain ⟨n, rfl⟩ : ∃ k, n = k + 1 := ⟨n - 1, by omega⟩
    rw [e_X11_often_18, if_pos ((l_cmp0 (a := pk8r []) (by simp [pk8r])).mpr rfl)]
    rfl
  | cons c l ih =>
    intro a n σ hn
    have hb := pk8r_48 h h6
    simp only [List.length_cons] at h6 hn
    obtain ⟨n, rfl⟩ : ∃ k, n = k + 1 := ⟨n - 1, by omega⟩
    have hc := h c (List.mem_cons_self)
    have ih := ih (fun c hc => h c (List.mem_cons_of_mem _ hc)) (by omega)
    rw [e_X11_often_18, if_neg (fun q => by have := (l_cmp0 (by omega)).mp q; simp only [pk8r] at this; omega), l_255 (by omega), show pk8r (c :: l) % 256 = c + 97 by simp only [pk8r]; omega]
    dsimp only [ltt]
    rw [jl_8 (by omega), show pk8r (c :: l) / 256 = pk8r l by simp only [pk8r]; omega, show nI (c + 97) - 97 = nI c from pk_sub (a := c + 97) (b := 97) (by omega), show (0 : Int32) = nI 0 from rfl, nI_add, nI_1]
    by_cases e : c = k
    · subst e
      rw [if_pos rfl, ih _ _ _ (by omega), List.count_cons_self, show a + 1 + l.count c = a + (l.count c + 1) by omega]
    · rw [if_neg (fun q => e ((nI_eq (by omega) (by omega)).mp q)), ih _ _ _ (by omega), List.count_cons_of_ne (by simpa using e), Nat.add_zero]
theorem oz_M {bk : Nat} {l : List Nat} (h : ∀ c ∈ l, c < 26) (h6 : l.length ≤ 6) : ∀ (a : Int32) (n : Nat) (m : St), RBk bk m → l.length < n → f_X11_ouncesOf_17 n a (lN (pk8r l)) m = some (a + ozS m 2 (26 * bk) l, m) := by
  induction l with
  | nil =>
    intro a n m hb hn
    obtain ⟨n, rfl⟩ : ∃ k, n = k + 1 := ⟨n - 1, by omega⟩
    rw [e_X11_ouncesOf_17, if_pos ((l_cmp0 (a := pk8r []) (by simp [pk8r])).mpr rfl), ozS, Int32.add_zero]
  | cons c l ih =>
    intro a n m hbk hn
    have hb := pk8r_48 h h6
    simp only [List.length_cons] at h6 hn
    obtain ⟨n, rfl⟩ : ∃ k, n = k + 1 := ⟨n - 1, by omega⟩
    have hc := h c (List.mem_cons_self)
    have ih := ih (fun c hc => h c (List.mem_cons_of_mem _ hc)) (by omega)
    rw [e_X11_ouncesOf_17, if_neg (fun q => by have := (l_cmp0 (by omega)).mp q; simp only [pk8r] at this; omega), l_255 (by omega), show pk8r (c :: l) % 256 = c + 97 by simp only [pk8r]; omega, show nI (c + 97) - 97 = nI c from pk_sub (a := c + 97) (b := 97) (by omega), weight_M hbk hc]
    dsimp only [ltt, Option.bind]
    rw [jl_8 (by omega), show pk8r (c :: l) / 256 = pk8r l by simp only [pk8r]; omega, ih _ _ _ hbk (by omega), ozS, Int32.add_assoc, Int32.add_comm (gI m 2 (26 * bk + c))]
theorem ozS_app (σ : St) (o b : Nat) (l k : List Nat) : ozS σ o b (l ++ k) = ozS σ o b l + ozS σ o b k := by
  induction l with
  | nil => simp [ozS]
  | cons c l ih => simp only [List.cons_append, ozS, ih]; rw [Int32.add_assoc, Int32.add_comm (ozS σ o b k), ← Int32.add_assoc]
theorem ozS_rev (σ : St) (o b : Nat) (l : List Nat) : ozS σ o b l.reverse = ozS σ o b l := by
  induction l with
  | nil => rfl
  | cons c l ih => rw [List.reverse_cons, ozS_app, ih]; simp [ozS]
