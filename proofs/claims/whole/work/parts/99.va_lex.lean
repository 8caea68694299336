/-! ===== the text's words: bytes, runs, names ===== -/
def let1 (c : Nat) : Bool := decide (97 ≤ c) && decide (c ≤ 122)
def dig1 (c : Nat) : Bool := decide (48 ≤ c) && decide (c ≤ 57)
def bl1 (c : Nat) : Bool := decide (c = 32) || decide (c = 10)
def Run (P : Nat → Bool) (t : Nat → Nat) (n a w : Nat) : Prop := a ≤ w ∧ w ≤ n ∧ (∀ i, a ≤ i → i < w → P (t i) = true) ∧ (w < n → P (t w) = false)
theorem run_ex (P : Nat → Bool) (t : Nat → Nat) (n : Nat) : ∀ d a, a + d = n → ∃ w, Run P t n a w := by
  intro d
  induction d with
  | zero => intro a h; exact ⟨a, by omega, by omega, fun i h1 h2 => by omega, fun h3 => by omega⟩
  | succ d ih =>
    intro a h
    cases e : P (t a) with
    | false => exact ⟨a, by omega, by omega, fun i h1 h2 => by omega, fun _ => e⟩
    | true =>
      obtain ⟨w, h1, h2, h3, h4⟩ := ih (a + 1) (by omega)
      refine ⟨w, by omega, h2, fun i g1 g2 => ?_, h4⟩
      by_cases c : i = a
      · rw [c]; exact e
      · exact h3 i (by omega) g2
theorem sI2 (σ : St) (o k : Nat) (v w : Int32) : sI (sI σ o k v) o k w = sI σ o k w := by
  unfold sI
  refine Prod.ext ?_ rfl
  funext a b
  by_cases h : a = o ∧ b = k
  · simp only [if_pos h]
  · simp only [if_neg h]
theorem sI_id {σ : St} {o k : Nat} {v : Int32} (h : gI σ o k = v) : sI σ o k v = σ := by
  unfold sI
  refine Prod.ext ?_ rfl
  funext a b
  by_cases c : a = o ∧ b = k
  · simp only [if_pos c]; rw [c.1, c.2]; exact h.symm
  · simp only [if_neg c]
theorem ge_s {σ : St} {o k : Nat} {v : Int32} : gI (sI σ o k v) o k = v := by rw [gI_sI, if_pos ⟨rfl, rfl⟩]
theorem ge_n {σ : St} {o k a b : Nat} {v : Int32} (h : ¬ (a = o ∧ b = k)) : gI (sI σ o k v) a b = gI σ a b := by rw [gI_sI, if_neg h]
theorem let_M {c : Nat} (hc : c < 256) (σ : St) : f_X11_isLetter (nI c) σ = some (bi (let1 c), σ) := by
  rw [e_X11_isLetter, show (97 : Int32) = nI 97 from rfl, show (122 : Int32) = nI 122 from rfl]
  by_cases h1 : c < 97
  · rw [if_pos (nI_lt (b := 97) h1 (by omega))]; simp [let1, bi, show ¬ 97 ≤ c by omega]
  · rw [if_neg (nI_nlt (b := 97) (by omega) (by omega))]
    by_cases h2 : 122 < c
    · rw [if_pos (nI_lt (a := 122) h2 (by omega))]; simp [let1, bi, show ¬ c ≤ 122 by omega]
    · rw [if_neg (nI_nlt (a := 122) (by omega) (by omega))]; simp [let1, bi, show c ≤ 122 by omega, show 97 ≤ c by omega]
theorem dig_M {c : Nat} (hc : c < 256) (σ : St) : f_X11_isDigit (nI c) σ = some (bi (dig1 c), σ) := by
  rw [e_X11_isDigit, show (48 : Int32) = nI 48 from rfl, show (57 : Int32) = nI 57 from rfl]
  by_cases h1 : c < 48
  · rw [if_pos (nI_lt (b := 48) h1 (by omega))]; simp [dig1, bi, show ¬ 48 ≤ c by omega]
  · rw [if_neg (nI_nlt (b := 48) (by omega) (by omega))]
    by_cases h2 : 57 < c
    · rw [if_pos (nI_lt (a := 57) h2 (by omega))]; simp [dig1, bi, show ¬ c ≤ 57 by omega]
    · rw [if_neg (nI_nlt (a := 57) (by omega) (by omega))]; simp [dig1, bi, show c ≤ 57 by omega, show 48 ≤ c by omega]
/-- the kind of a byte, here -/
def kd (c : Nat) : Nat := if let1 c = true then 300 else if dig1 c = true then 301 else c
theorem kd_l {c : Nat} (h : let1 c = true) : kd c = 300 := by unfold kd; rw [if_pos h]
theorem kd_d {c : Nat} (h : let1 c = false) (h' : dig1 c = true) : kd c = 301 := by
  unfold kd; rw [if_neg (by rw [h]; decide), if_pos h']
theorem kd_s {c : Nat} (h : let1 c = false) (h' : dig1 c = false) : kd c = c := by
  unfold kd; rw [if_neg (by rw [h]; decide), if_neg (by rw [h']; decide)]
theorem kind_X {c : Nat} (hc : c < 256) (σ : St) : f_X6_kindOf (nI c) σ = some (nI (kd c), σ) := by
  rw [e_X6_kindOf]
  by_cases h1 : c < 97
  · have l0 : let1 c = false := by simp [let1, show ¬ 97 ≤ c by omega]
    rw [if_pos (show nI c < (97 : Int32) from nI_lt (b := 97) h1 (by omega))]
    by_cases h2 : c < 48
    · have d0 : dig1 c = false := by simp [dig1, show ¬ 48 ≤ c by omega]
      rw [if_pos (show nI c < (48 : Int32) from nI_lt (b := 48) h2 (by omega)), kd_s l0 d0]
    · rw [if_neg (show ¬ nI c < (48 : Int32) from nI_nlt (b := 48) (by omega) (by omega))]
      by_cases h3 : 57 < c
      · have d0 : dig1 c = false := by simp [dig1, show ¬ c ≤ 57 by omega]
        rw [if_pos (show (57 : Int32) < nI c from nI_lt (a := 57) h3 (by omega)), kd_s l0 d0]
      · have d1 : dig1 c = true := by simp [dig1, show c ≤ 57 by omega, show 48 ≤ c by omega]
        rw [if_neg (show ¬ (57 : Int32) < nI c from nI_nlt (a := 57) (by omega) (by omega)), kd_d l0 d1]
        rfl
  · rw [if_neg (show ¬ nI c < (97 : Int32) from nI_nlt (b := 97) (by omega) (by omega))]
    by_cases h2 : 122 < c
    · have l0 : let1 c = false := by simp [let1, show ¬ c ≤ 122 by omega]
      have d0 : dig1 c = false := by simp [dig1, show ¬ c ≤ 57 by omega]
      rw [if_pos (show (122 : Int32) < nI c from nI_lt (a := 122) h2 (by omega)), if_neg (show ¬ nI c < (48 : Int32) from nI_nlt (b := 48) (by omega) (by omega)), if_pos (show (57 : Int32) < nI c from nI_lt (a := 57) (by omega) (by omega)), kd_s l0 d0]
    · have l1 : let1 c = true := by simp [let1, show c ≤ 122 by omega, show 97 ≤ c by omega]
      rw [if_neg (show ¬ (122 : Int32) < nI c from nI_nlt (a := 122) (by omega) (by omega)), kd_l l1]
      rfl
/-- a word or a number touches what stands at a place, from before -/
def glu (t : Nat → Nat) (a : Nat) : Bool := decide (0 < a) && (let1 (t (a - 1)) || dig1 (t (a - 1)))
theorem glu_l {t : Nat → Nat} {a : Nat} (h : glu t a = false) : a = 0 ∨ let1 (t (a - 1)) = false := by
  by_cases c : a = 0
  · exact .inl c
  · unfold glu at h
    rw [decide_eq_true (show 0 < a by omega), Bool.true_and, Bool.or_eq_false_iff] at h
    exact .inr h.1
theorem glu_d {t : Nat → Nat} {a : Nat} (h : glu t a = false) : a = 0 ∨ dig1 (t (a - 1)) = false := by
  by_cases c : a = 0
  · exact .inl c
  · unfold glu at h
    rw [decide_eq_true (show 0 < a by omega), Bool.true_and, Bool.or_eq_false_iff] at h
    exact .inr h.2
theorem glu_1 {t : Nat → Nat} {a : Nat} (h0 : 0 < a) (h : let1 (t (a - 1)) = true ∨ dig1 (t (a - 1)) = true) : glu t a = true := by
  unfold glu
  rw [decide_eq_true h0, Bool.true_and, Bool.or_eq_true]
  exact h
theorem glu_0 {t : Nat → Nat} {a : Nat} (h : glu t a = true) : 0 < a ∧ (let1 (t (a - 1)) = true ∨ dig1 (t (a - 1)) = true) := by
  unfold glu at h
  rw [Bool.and_eq_true, decide_eq_true_eq, Bool.or_eq_true] at h
  exact h
theorem not_both (c : Nat) : ¬ (let1 c = true ∧ dig1 c = true) := by
  intro ⟨h1, h2⟩
  simp only [let1, dig1, Bool.and_eq_true, decide_eq_true_eq] at h1 h2
  omega
-- names out of the text
def nmL (t : Nat → Nat) (a : Nat) : Nat → List Nat
  | 0 => []
  | k + 1 => nmL t a k ++ [t (a + k) - 97]
theorem nmL_len (t : Nat → Nat) (a k : Nat) : (nmL t a k).length = k := by
  induction k with
  | zero => rfl
  | succ k ih => simp [nmL, ih]
theorem pk5_app (l : List Nat) (c : Nat) : pk5 (l ++ [c]) = pk5 l + 32 ^ l.length * (c + 1) := by
  induction l with
  | nil => simp [pk5]
  | cons d l ih =>
    simp only [List.cons_append, pk5, ih, List.length_cons, Nat.pow_succ]
    rw [Nat.mul_add, Nat.mul_comm (32 ^ l.length) 32, Nat.mul_assoc]
    omega
theorem pk8_app (l : List Nat) (c : Nat) : pk8 (l ++ [c]) = 256 * pk8 l + (c + 97) := by
  simp [pk8, List.foldl_append]
theorem pk8_48 {l : List Nat} (h : ∀ c ∈ l, c < 26) (h6 : l.length ≤ 6) : pk8 l < 2 ^ 48 := by
  rw [pk8_r]
  exact pk8r_48 (fun c hc => h c (List.mem_reverse.mp hc)) (by rw [List.length_reverse]; exact h6)
theorem pk8_lt {l : List Nat} (h : ∀ c ∈ l, c < 26) : pk8 l < 256 ^ l.length := by
  rw [pk8_r]
  have := pk8r_lt (l := l.reverse) (fun c hc => h c (List.mem_reverse.mp hc))
  rw [List.length_reverse] at this; exact this
theorem pk8_inj {l k : List Nat} (h : ∀ c ∈ l, c < 26) (h' : ∀ c ∈ k, c < 26) (e : pk8 l = pk8 k) : l = k := by
  rw [pk8_r, pk8_r] at e
  apply List.reverse_inj.mp
  apply List.ext_getElem?
  intro j
  have a1 := pk8r_at (l := l.reverse) (fun c hc => h c (List.mem_reverse.mp hc)) j
  have a2 := pk8r_at (l := k.reverse) (fun c hc => h' c (List.mem_reverse.mp hc)) j
  rw [e, a2] at a1
  clear a2
  revert a1
  cases e1 : l.reverse[j]? with
  | none =>
    cases e2 : k.reverse[j]? with
    | none => intro _; rfl
    | some c => intro a1; exfalso; have a3 : c + 97 = 0 := a1; omega
  | some d =>
    cases e2 : k.reverse[j]? with
    | none => intro a1; exfalso; have a3 : 0 = d + 97 := a1; omega
    | some c => intro a1; have a3 : c + 97 = d + 97 := a1; congr 1; omega
theorem sh5 : ∀ k, k < 6 → (((nI k * (5 : Int32)) &&& 31).toBitVec.smod 32).toNat = 5 * k := by decide +kernel
theorem or5 {l : List Nat} {c : Nat} (h : ∀ d ∈ l, d < 26) (hl : l.length < 6) (hc : c < 26) : nI (pk5 l) ||| ((nI (c + 1)) <<< ((nI l.length * (5 : Int32)) &&& 31)) = nI (pk5 (l ++ [c])) := by
  have hlt := pk5_lt h
  have h32 : (32 : Nat) ^ l.length = 2 ^ (5 * l.length) := by rw [Nat.pow_mul]
  have hp : (2 : Nat) ^ (5 * l.length) ≤ 2 ^ 25 := Nat.pow_le_pow_right (by omega) (by omega)
  have hb : (c + 1) * 2 ^ (5 * l.length) < 2 ^ 32 := by
    calc (c + 1) * 2 ^ (5 * l.length) ≤ 26 * 2 ^ 25 := Nat.mul_le_mul (by omega) hp
      _ < 2 ^ 32 := by decide
  rw [pk_shlN _ (5 * l.length) (sh5 _ hl) hb, nI_or, pk5_app, h32]
  rw [h32] at hlt
  congr 1
  rw [Nat.or_comm, Nat.mul_comm (c + 1), ← Nat.two_pow_add_eq_or_of_lt hlt]
  omega
theorem or64 {a b : Nat} (ha : a < 2 ^ 40) (hb : b < 256) : (jlshl (lN a) (8 : Int32)) ||| lN b = lN (256 * a + b) := by
  apply Int64.toBitVec_inj.mp
  apply BitVec.eq_of_toNat_eq
  have e : ((8 : Int32).toInt64 &&& 63) = (8 : Int64) := by decide +kernel
  rw [jlshl, e]
  show ((BitVec.ofNat 64 a <<< ((8 : Int64).toBitVec.smod 64)) ||| BitVec.ofNat 64 b).toNat = (BitVec.ofNat 64 (256 * a + b)).toNat
  have e8 : ((8 : Int64).toBitVec.smod 64) = BitVec.ofNat 64 8 := by decide +kernel
  rw [e8, BitVec.toNat_or, BitVec.shiftLeft_eq', BitVec.toNat_shiftLeft, BitVec.toNat_ofNat, BitVec.toNat_ofNat, BitVec.toNat_ofNat, BitVec.toNat_ofNat, Nat.mod_eq_of_lt (show a < 2 ^ 64 by omega), Nat.mod_eq_of_lt (show b < 2 ^ 64 by omega), Nat.mod_eq_of_lt (show 8 < 2 ^ 64 by omega), Nat.mod_eq_of_lt (show 256 * a + b < 2 ^ 64 by omega), Nat.shiftLeft_eq, Nat.mod_eq_of_lt (show a * 2 ^ 8 < 2 ^ 64 by omega), Nat.mul_comm a, ← Nat.two_pow_add_eq_or_of_lt (i := 8) (show b < 2 ^ 8 by omega) a]
-- the program's own words
def owl (i : Nat) : List Nat := [[11, 4, 19, 19, 4, 17], [15, 4, 17, 18, 14, 13], [1, 14, 17, 13], [11, 8, 5, 19, 18], [3, 4, 13, 19, 18], [19, 8, 19, 11, 4], [7, 14, 13, 14, 20, 17], [7, 0, 18], [7, 4, 0, 15], [0, 6, 4], [1, 4, 0, 17, 18], [1, 17, 8, 3, 6, 4], [24, 4, 0, 17], [22, 7, 4, 13], [14, 17], [0, 13, 3], [13, 14, 19], [0, 11, 11], [14, 11, 3], [5, 14, 17, 2, 4], [13, 0, 12, 4, 18], [12, 8, 13], [12, 0, 23]].getD i []
def wl (i : Nat) : Int64 := [119183001281906, 123581014175598, 1651470958, 465624790131, 431198467187, 499985443941, 114827803456882, 6840691, 1751474544, 6383461, 422607680115, 108243533981541, 2036687218, 2003330414, 28530, 6385252, 7237492, 6384748, 7302244, 439956431717, 474080961907, 7170414, 7168376].getD i 0
theorem owl_ok : ∀ i, i < 23 → 1 ≤ (owl i).length ∧ (owl i).length ≤ 6 ∧ (∀ c ∈ owl i, c < 26) ∧ wl i = lN (pk8 (owl i)) := by decide +kernel
theorem owl_inj : ∀ i, i < 23 → ∀ j, j < 23 → owl i = owl j → i = j := by decide +kernel
theorem ownN_e : ownN = owN 119 := Classical.choose_spec (⟨owN 119, rfl⟩ : ∃ f : Nat → Int32, f = owN 119)
theorem owN_l : ∀ i, i < 23 → owN 119 i = nI (pk5 (owl i)) := by decide +kernel
def own (l : List Nat) : Nat := match (List.range 23).find? (fun i => decide (owl i = l)) with | some i => 400 + i | none => 300
theorem own_i {i : Nat} (hi : i < 23) : own (owl i) = 400 + i := by
  unfold own
  cases e : (List.range 23).find? (fun j => decide (owl j = owl i)) with
  | none =>
    have := List.find?_eq_none.mp e i (List.mem_range.mpr hi)
    simp at this
  | some j =>
    have h1 := List.find?_some e
    have h2 := List.mem_range.mp (List.mem_of_find?_eq_some e)
    dsimp only
    rw [owl_inj j h2 i hi (by simpa using h1)]
theorem own_no {l : List Nat} (h : ∀ i, i < 23 → ¬ owl i = l) : own l = 300 := by
  unfold own
  rw [show (List.range 23).find? (fun i => decide (owl i = l)) = none from List.find?_eq_none.mpr (fun i hi => by simp [h i (List.mem_range.mp hi)])]
theorem own_cs (l : List Nat) : (∃ i, i < 23 ∧ l = owl i ∧ own l = 400 + i) ∨ ((∀ i, i < 23 → ¬ owl i = l) ∧ own l = 300) := by
  by_cases h : ∃ i, i < 23 ∧ owl i = l
  · obtain ⟨i, hi, e⟩ := h
    exact .inl ⟨i, hi, e.symm, by rw [← e]; exact own_i hi⟩
  · have h' : ∀ i, i < 23 → ¬ owl i = l := fun i hi e => h ⟨i, hi, e⟩
    exact .inr ⟨h', own_no h'⟩
