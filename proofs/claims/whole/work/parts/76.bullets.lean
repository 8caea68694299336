/-! ===== bullets ===== -/
theorem nI_or (a b : Nat) : nI a ||| nI b = nI (a ||| b) := by
  apply Int32.toBitVec_inj.mp
  apply BitVec.eq_of_toNat_eq
  simp only [nI, Int32.toBitVec_or, Int32.toBitVec_ofNat', BitVec.toNat_or, BitVec.toNat_ofNat]
  rw [Nat.or_mod_two_pow]
theorem nI_and (a b : Nat) : nI a &&& nI b = nI (a &&& b) := by
  apply Int32.toBitVec_inj.mp
  apply BitVec.eq_of_toNat_eq
  simp only [nI, Int32.toBitVec_and, Int32.toBitVec_ofNat', BitVec.toNat_and, BitVec.toNat_ofNat]
  rw [Nat.and_mod_two_pow]
theorem p2_I {n : Nat} (hn : n < 31) : (1 : Int32) <<< (nI n &&& 31) = nI (2 ^ n) := by
  have h2 : 2 ^ n < 2 ^ 31 := Nat.pow_lt_pow_right (by omega) hn
  have := pk_shlN (n := 1) (nI n &&& 31) n (sh_l n (by omega)) (by omega)
  rw [Nat.one_mul] at this
  exact this
theorem itr_add {α : Type} (g : α → Nat → α) : ∀ d e a i, itr g (d + e) a i = itr g e (itr g d a i) (i + d) := by
  intro d
  induction d with
  | zero => intro e a i; rw [Nat.zero_add]; rfl
  | succ d ih =>
    intro e a i
    rw [show d + 1 + e = (d + e) + 1 by omega]
    show itr g (d + e) (g a i) (i + 1) = itr g e (itr g d (g a i) (i + 1)) (i + (d + 1))
    rw [ih, show i + 1 + d = i + (d + 1) by omega]
theorem itr_sh {α : Type} (g : α → Nat → α) (e : Nat) : ∀ d a i, itr g d a (i + e) = itr (fun a k => g a (k + e)) d a i := by
  intro d
  induction d with
  | zero => intro a i; rfl
  | succ d ih =>
    intro a i
    show itr g d (g a (i + e)) (i + e + 1) = _
    rw [show i + e + 1 = (i + 1) + e by omega, ih]
    rfl
theorem itr_no {α : Type} {g : α → Nat → α} {s : α} : ∀ d i, (∀ k, i ≤ k → k < i + d → g s k = s) → itr g d s i = s := by
  intro d
  induction d with
  | zero => intro i h; rfl
  | succ d ih =>
    intro i h
    show itr g d (g s i) (i + 1) = s
    rw [h i (Nat.le_refl _) (by omega)]
    exact ih (i + 1) (fun k h1 h2 => h k (by omega) (by omega))
/-- what the bullets of a choice weigh -/
def bsum (B : Nat → Nat) : Nat → Nat → Nat
  | 0, _ => 0
  | n + 1, k => bsum B n k + if k.testBit n = true then B n else 0
theorem bsum_lo {B : Nat → Nat} {n k : Nat} (h : k < 2 ^ n) : bsum B (n + 1) k = bsum B n k := by
  rw [bsum, Nat.testBit_lt_two_pow h, if_neg (by decide), Nat.add_zero]
theorem bsum_ad {B : Nat → Nat} {n k : Nat} : ∀ j, j ≤ n → bsum B j (2 ^ n + k) = bsum B j k := by
  intro j
  induction j with
  | zero => intro _; rfl
  | succ j ih =>
    intro h
    rw [bsum, bsum, ih (by omega), Nat.testBit_two_pow_add_gt (by omega)]
theorem bsum_hi {B : Nat → Nat} {n k : Nat} (h : k < 2 ^ n) : bsum B (n + 1) (2 ^ n + k) = bsum B n k + B n := by
  rw [bsum, bsum_ad n (Nat.le_refl _), Nat.testBit_two_pow_add_eq, Nat.testBit_lt_two_pow h]
  rfl
theorem bsum_pos {B : Nat → Nat} {N : Nat} (hB : ∀ i, i < N → 1 ≤ B i) {n k : Nat} (hn : n ≤ N) (hk : k < 2 ^ n) (h0 : bsum B n k = 0) : k = 0 := by
  induction n with
  | zero => rw [Nat.pow_zero] at hk; omega
  | succ n ih =>
    by_cases c : k.testBit n = true
    · rw [bsum, if_pos c] at h0
      have := hB n (by omega)
      omega
    · rw [bsum, if_neg c, Nat.add_zero] at h0
      refine ih (by omega) ?_ h0
      rw [Nat.pow_succ] at hk
      rw [Bool.not_eq_true] at c
      by_cases w : k < 2 ^ n
      · exact w
      · obtain ⟨j, rfl⟩ : ∃ j, k = 2 ^ n + j := ⟨k - 2 ^ n, by omega⟩
        rw [Nat.testBit_two_pow_add_eq, Nat.testBit_lt_two_pow (by omega)] at c
        cases c
def btot (B : Nat → Nat) : Nat → Nat
  | 0 => 0
  | n + 1 => btot B n + B n
theorem bsum_le (B : Nat → Nat) (n k : Nat) : bsum B n k ≤ btot B n := by
  induction n with
  | zero => exact Nat.le_refl _
  | succ n ih => rw [bsum, btot]; split <;> omega
theorem btot_le {B : Nat → Nat} {N b : Nat} (hB : ∀ i, i < N → B i ≤ b) : ∀ n, n ≤ N → btot B n ≤ n * b := by
  intro n
  induction n with
  | zero => intro _; exact Nat.zero_le _
  | succ n ih =>
    intro h
    have := ih (by omega)
    have := hB n (by omega)
    rw [btot, Nat.add_mul, Nat.one_mul]
    omega
def gB (B : Nat → Nat) (n z ch : Nat) (s : Int32 × Int32) (k : Nat) : Int32 × Int32 := if bsum B n k = z then (s.1 + 1, if s.2 = -1 then nI (ch + k) else s.2) else s
/-- the search's cells -/
def BX (B : Nat → Nat) (N : Nat) (x : St) (s : Int32 × Int32) (σ : St) : Prop := ScX x σ ∧ (∀ i, i < N → gI σ 28 i = nI (B i)) ∧ (∀ n, n ≤ N → gI σ 29 n = nI (btot B n)) ∧ gI σ 24 11 = s.1 ∧ gI σ 24 12 = s.2
theorem or_hi {ch n : Nat} (h : ch % 2 ^ (n + 1) = 0) : ch ||| 2 ^ n = ch + 2 ^ n := by
  have h1 := Nat.div_add_mod ch (2 ^ (n + 1))
  rw [h, Nat.add_zero] at h1
  rw [← h1]
  exact (Nat.two_pow_add_eq_or_of_lt (Nat.pow_lt_pow_right (by omega) (by omega)) _).symm
theorem collect_X {B : Nat → Nat} {N : Nat} {x : St} (h16 : N ≤ 16) (hB : ∀ i, i < N → 1 ≤ B i ∧ B i ≤ 65535) : ∀ n d z ch s σ, n ≤ N → n < d → z ≤ 99999 → ch % 2 ^ n = 0 → ch + 2 ^ n ≤ 65536 → BX B N x s σ → ∃ σ', f_X9_collect d (nI n) (nI z) (nI ch) σ = some ((), σ') ∧ BX B N x (itr (gB B n z ch) (2 ^ n) s 0) σ' := by
  intro n
  induction n with
  | zero =>
    intro d z ch s σ hn hd hz hch hc hσ
    obtain ⟨d, rfl⟩ : ∃ k, d = k + 1 := ⟨d - 1, by omega⟩
    rw [ed_X9_collect, e_X9_collect]
    dsimp only [ltt]
    obtain ⟨o1, o2, o3, o4, o5⟩ := hσ
    by_cases c : z = 0
    · subst c
      rw [if_pos nI_0]
      have e6 : gI (sI σ 24 11 (gI σ 24 11 + 1)) 24 12 = s.2 := by rw [gI_sI, if_neg (by decide), o5]
      rw [e6]
      have g1 : itr (gB B 0 0 ch) (2 ^ 0) s 0 = (s.1 + 1, if s.2 = -1 then nI ch else s.2) := rfl
      rw [g1]
      by_cases c2 : s.2 = -1
      · rw [if_pos c2, if_pos c2]
        refine ⟨_, rfl, (o1.tr (ScX.sI rfl)).tr (ScX.sI rfl), fun i hi => ?_, fun i hi => ?_, ?_, ?_⟩
        · rw [gI_sI, if_neg (by omega), gI_sI, if_neg (by omega)]; exact o2 i hi
        · rw [gI_sI, if_neg (by omega), gI_sI, if_neg (by omega)]; exact o3 i hi
        · rw [gI_sI, if_neg (by decide), gI_sI, if_pos ⟨rfl, rfl⟩, o4]
        · rw [gI_sI, if_pos ⟨rfl, rfl⟩]
      · rw [if_neg c2, if_neg c2]
        refine ⟨_, rfl, (o1.tr (ScX.sI rfl)).tr (ScX.sI rfl), fun i hi => ?_, fun i hi => ?_, ?_, ?_⟩
        · rw [gI_sI, if_neg (by omega), gI_sI, if_neg (by omega)]; exact o2 i hi
        · rw [gI_sI, if_neg (by omega), gI_sI, if_neg (by omega)]; exact o3 i hi
        · rw [gI_sI, if_neg (by decide), gI_sI, if_pos ⟨rfl, rfl⟩, o4]
        · rw [gI_sI, if_pos ⟨rfl, rfl⟩]
    · rw [if_neg (nI_ne0 (by omega) (by omega)), if_pos (by decide)]
      refine ⟨σ, rfl, o1, o2, o3, ?_, ?_⟩
      · rw [show itr (gB B 0 z ch) (2 ^ 0) s 0 = gB B 0 z ch s 0 from rfl, gB, if_neg (fun q => c q.symm)]; exact o4
      · rw [show itr (gB B 0 z ch) (2 ^ 0) s 0 = gB B 0 z ch s 0 from rfl, gB, if_neg (fun q => c q.symm)]; exact o5
  | succ n ih =>
    intro d z ch s σ hn hd hz hch hc hσ
    obtain ⟨d, rfl⟩ : ∃ k, d = k + 1 := ⟨d - 1, by omega⟩
    rw [ed_X9_collect, e_X9_collect]
    dsimp only [ltt]
    obtain ⟨o1, o2, o3, o4, o5⟩ := id hσ
    have hpp : 2 ^ (n + 1) = 2 ^ n + 2 ^ n := by rw [Nat.pow_succ]; omega
    have hp0 : 0 < 2 ^ n := Nat.two_pow_pos n
    by_cases c : z = 0
    · subst c
      rw [if_pos nI_0]
      have e6 : gI (sI σ 24 11 (gI σ 24 11 + 1)) 24 12 = s.2 := by rw [gI_sI, if_neg (by decide), o5]
      rw [e6]
      have g1 : itr (gB B (n + 1) 0 ch) (2 ^ (n + 1)) s 0 = (s.1 + 1, if s.2 = -1 then nI ch else s.2) := by
        rw [show 2 ^ (n + 1) = 1 + (2 ^ (n + 1) - 1) by omega, itr_add, itr_no]
        · show gB B (n + 1) 0 ch s 0 = _
          have : ∀ j, bsum B j 0 = 0 := by
            intro j
            induction j with
            | zero => rfl
            | succ j ih => rw [bsum, ih, Nat.zero_testBit]; rfl
          rw [gB, if_pos (this _)]
          rfl
        · intro k h1 h2
          rw [gB, if_neg]
          intro q
          have := bsum_pos (fun i hi => (hB i hi).1) hn (by omega) q
          omega
      rw [g1]
      by_cases c2 : s.2 = -1
      · rw [if_pos c2, if_pos c2]
        refine ⟨_, rfl, (o1.tr (ScX.sI rfl)).tr (ScX.sI rfl), fun i hi => ?_, fun i hi => ?_, ?_, ?_⟩
        · rw [gI_sI, if_neg (by omega), gI_sI, if_neg (by omega)]; exact o2 i hi
        · rw [gI_sI, if_neg (by omega), gI_sI, if_neg (by omega)]; exact o3 i hi
        · rw [gI_sI, if_neg (by decide), gI_sI, if_pos ⟨rfl, rfl⟩, o4]
        · rw [gI_sI, if_pos ⟨rfl, rfl⟩]
      · rw [if_neg c2, if_neg c2]
        refine ⟨_, rfl, (o1.tr (ScX.sI rfl)).tr (ScX.sI rfl), fun i hi => ?_, fun i hi => ?_, ?_, ?_⟩
        · rw [gI_sI, if_neg (by omega), gI_sI, if_neg (by omega)]; exact o2 i hi
        · rw [gI_sI, if_neg (by omega), gI_sI, if_neg (by omega)]; exact o3 i hi
        · rw [gI_sI, if_neg (by decide), gI_sI, if_pos ⟨rfl, rfl⟩, o4]
        · rw [gI_sI, if_pos ⟨rfl, rfl⟩]
    · rw [if_neg (nI_ne0 (by omega) (by omega)), if_neg (nI_nle (by omega) (by omega)), if_neg (show ¬ (16 : Int32) < nI (n + 1) from nI_nlt (a := 16) (by omega) (by omega)), if_neg (nI_pos (by omega)), if_pos (inb_nI (by omega) (by omega)), ix_nI (by omega), o3 (n + 1) hn]
      have ht := btot_le (fun i hi => (hB i hi).2) (n + 1) hn
      by_cases ct : z ≤ btot B (n + 1)
      · rw [if_pos (nI_le ct (by omega)), show nI (n + 1) - 1 = nI n from nI_pred n, inb_nI (show n < 16 by omega) (by omega), ix_nI (by omega), p2_I (by omega), nI_or]
        have hm1 : ch % 2 ^ n = 0 := by
          have := Nat.div_add_mod ch (2 ^ (n + 1))
          rw [← this, hch, hpp, ← Nat.two_mul, Nat.add_zero, Nat.mul_assoc, Nat.mul_left_comm, Nat.mul_mod_right]
        obtain ⟨σ1, e1, h1⟩ := ih d z ch s σ (by omega) (by omega) hz hm1 (by omega) hσ
        rw [e1]
        dsimp only [Option.bind]
        rw [if_pos rfl, h1.2.1 n (by omega), or_hi hch]
        have fst : itr (gB B (n + 1) z ch) (2 ^ n) s 0 = itr (gB B n z ch) (2 ^ n) s 0 := itr_congr (fun a k hk => by rw [gB, gB, bsum_lo hk]) _ _ _ (by omega)
        have snd : ∀ s', itr (gB B (n + 1) z ch) (2 ^ n) s' (0 + 2 ^ n) = itr (fun s k => if bsum B n k + B n = z then (s.1 + 1, if s.2 = -1 then nI (ch + 2 ^ n + k) else s.2) else s) (2 ^ n) s' 0 := by
          intro s'
          rw [itr_sh]
          refine itr_congr (N := 2 ^ n) (fun a k hk => ?_) _ _ _ (by omega)
          rw [gB, Nat.add_comm k, bsum_hi hk, Nat.add_assoc]
        rw [hpp, itr_add, fst, snd]
        by_cases cz : B n ≤ z
        · rw [pk_sub cz]
          have hm2 : (ch + 2 ^ n) % 2 ^ n = 0 := by rw [Nat.add_mod_right]; exact hm1
          obtain ⟨σ2, e2, h2⟩ := ih d (z - B n) (ch + 2 ^ n) _ σ1 (by omega) (by omega) (by omega) hm2 (by omega) h1
          rw [e2]
          refine ⟨σ2, rfl, ?_⟩
          rw [itr_congr (g' := gB B n (z - B n) (ch + 2 ^ n)) (N := 2 ^ n) (fun a k hk => ?_) _ _ _ (by omega)]
          · exact h2
          · rw [gB]
            by_cases q : bsum B n k = z - B n
            · rw [if_pos q, if_pos (by omega)]
            · rw [if_neg q, if_neg (by omega)]
        · have neg : nI z - nI (B n) < 0 := pk_sneg (by have := (hB n (by omega)).2; omega) (by omega)
          obtain ⟨d, rfl⟩ : ∃ k, d = k + 1 := ⟨d - 1, by omega⟩
          rw [itr_no]
          · refine ⟨σ1, ?_, h1⟩
            rw [ed_X9_collect, e_X9_collect]
            rw [if_neg (fun q => by rw [q] at neg; exact absurd neg (by decide))]
            by_cases cn : n = 0
            · subst cn
              rw [if_pos (by decide)]
            · rw [if_neg (nI_nle (by omega) (by omega)), if_neg (show ¬ (16 : Int32) < nI n from nI_nlt (a := 16) (by omega) (by omega)), if_pos neg]
          · intro k _ _
            rw [if_neg (by omega)]
      · rw [if_neg (nI_ge (by omega) (by omega))]
        refine ⟨σ, rfl, ?_⟩
        rw [itr_no]
        · exact hσ
        · intro k _ _
          have := bsum_le B (n + 1) k
          rw [gB, if_neg (by omega)]
section Bullets
variable {ld bk : Nat} {L : LD} {x m : St}
theorem seek_X {B : Nat → Nat} {N : Nat} (h16 : N ≤ 16) (hB : ∀ i, i < N → 1 ≤ B i ∧ B i ≤ 65535) (hx : ∀ i, i < N → gI x 9 i = nI (B i)) {v : Nat} (hv : v ≤ 99999) : ∃ σ', BX B N x (itr (gB B N v 0) (2 ^ N) (0, -1) 0) σ' ∧ f_X9_seekBullets_27 9 FU (nI v) (nI N) 0 (sI x 29 0 0) = some ((), σ') := by
  have hl : lnX 9 = 30 := rfl
  have h0 : ScX x (sI x 29 0 0) := ScX.sI rfl
  obtain ⟨σ1, ⟨q1, q2, q3⟩, e1⟩ := loop_exF (fun n (σ : St) i => f_X9_seekBullets_27 9 n (nI v) (nI N) (nI i) σ) (fun σ => (f_X9_collect 24 (nI N) (nI v) (0 : Int32) (sI (sI σ 24 11 0) 24 12 (-1))).bind fun q3 => some ((), q3.2)) N (by omega) (fun i σ => ScX x σ ∧ (∀ j, j < i → gI σ 28 j = nI (B j)) ∧ ∀ n, n ≤ i → gI σ 29 n = nI (btot B n)) (fun n σ hσ => by
    rw [e_X9_seekBullets_27, if_pos (nI_le (Nat.le_refl _) (by omega))]
    rfl) (fun n σ i hi hσ => by
    obtain ⟨w1, w2, w3⟩ := hσ
    refine ⟨sI (sI σ 28 i (nI (B i))) 29 (i + 1) (nI (btot B (i + 1))), ?_, (w1.tr (ScX.sI rfl)).tr (ScX.sI rfl), fun j hj => ?_, fun j hj => ?_⟩
    · rw [e_X9_seekBullets_27, if_neg (nI_ge hi (by omega)), hl, inb_nI (show i < 30 by omega) (by omega), inb_nI (show i < 16 by omega) (by omega), inb_nI (show i < 17 by omega) (by omega), nI_1, inb_nI (show i + 1 < 17 by omega) (by omega), ix_nI (by omega), ix_nI (by omega)]
      simp only [if_true, ltt]
      rw [gI_sI, if_neg (by omega), gI_sI, if_neg (by omega), w1.1 9 i rfl, hx i hi, w3 i (Nat.le_refl _), nI_add, btot]
    · rw [gI_sI, if_neg (by omega), gI_sI]
      by_cases c : j = i
      · rw [if_pos ⟨rfl, c⟩, c]
      · rw [if_neg (fun q => c q.2)]; exact w2 j (by omega)
    · rw [gI_sI]
      by_cases c : j = i + 1
      · rw [if_pos ⟨rfl, c⟩, c]
      · rw [if_neg (fun q => c q.2), gI_sI, if_neg (by omega)]; exact w3 j (by omega)) (sI x 29 0 0) ⟨h0, fun j hj => by omega, fun n hn => by
        have : n = 0 := by omega
        rw [this, gI_sI, if_pos ⟨rfl, rfl⟩]; rfl⟩
  have hN : 2 ^ N ≤ 2 ^ 16 := Nat.pow_le_pow_right (by omega) h16
  obtain ⟨σ2, e2, h2⟩ := collect_X (x := x) h16 hB N 24 v 0 (0, -1) (sI (sI σ1 24 11 0) 24 12 (-1)) (Nat.le_refl _) (by omega) hv (Nat.zero_mod _) (by omega) ⟨(q1.tr (ScX.sI rfl)).tr (ScX.sI rfl), fun i hi => by
    rw [gI_sI, if_neg (by omega), gI_sI, if_neg (by omega)]; exact q2 i hi, fun n hn => by
    rw [gI_sI, if_neg (by omega), gI_sI, if_neg (by omega)]; exact q3 n hn, by rw [gI_sI, if_neg (by decide), gI_sI, if_pos ⟨rfl, rfl⟩], by rw [gI_sI, if_pos ⟨rfl, rfl⟩]⟩
  refine ⟨σ2, h2, ?_⟩
  refine Eq.trans e1 ?_
  show (f_X9_collect 24 (nI N) (nI v) (nI 0) (sI (sI σ1 24 11 0) 24 12 (-1))).bind _ = _
  rw [e2]
  rfl
theorem bul64_M {B : Nat → Nat} {N : Nat} (h16 : N ≤ 16) (hB : ∀ i, i < N → 1 ≤ B i ∧ B i ≤ 65535) (hx : ∀ i, i < N → gI m 40 i = nI (B i)) (K : Int32 → Int32 → Int32 → Int32 → Int32 → Int32 → St → Option (Int32 × St)) {k : Nat} (hk : k < 65536) (v b : Int32) (s : Int32 × Int32) : f_X11_bullets_64 K FU v b (nI N) s.1 s.2 (nI k) 0 0 m = if nI (bsum B N k) = v then (if s.2 = (-1 : Int32) then (K v b (nI N) (s.1 + (1 : Int32)) (nI k) (nI k + (1 : Int32)) m) else (K v b (nI N) (s.1 + (1 : Int32)) s.2 (nI k + (1 : Int32)) m)) else (K v b (nI N) s.1 s.2 (nI k + (1 : Int32)) m) := by
  obtain ⟨a, ea, e⟩ := loop_exF (fun n (a : Int32) i => f_X11_bullets_64 K n v b (nI N) s.1 s.2 (nI k) a (nI i) m) (fun a => if a = v then (if s.2 = (-1 : Int32) then (K v b (nI N) (s.1 + (1 : Int32)) (nI k) (nI k + (1 : Int32)) m) else (K v b (nI N) (s.1 + (1 : Int32)) s.2 (nI k + (1 : Int32)) m)) else (K v b (nI N) s.1 s.2 (nI k + (1 : Int32)) m)) N (by omega) (fun i a => a = nI (bsum B i k)) (fun n a ha => by
    rw [e_X11_bullets_64, if_pos (nI_le (Nat.le_refl _) (by omega))]) (fun n a i hi ha => by
    refine ⟨nI (bsum B (i + 1) k), ?_, rfl⟩
    rw [e_X11_bullets_64, if_neg (nI_ge hi (by omega)), bit_I (by omega) (by omega), inb_nI (show i < 30 by omega) (by omega), ix_nI (by omega), hx i hi, nI_1, ha]
    dsimp only [ltt]
    rw [bsum]
    cases k.testBit i
    · rw [if_neg (by decide), if_neg (by decide), show (0 : Int32) = nI 0 from rfl, nI_add]
    · rw [if_pos (by decide), if_pos rfl, if_pos rfl, nI_add]) 0 rfl
  rw [← ea]
  exact e
theorem bul50_M {B : Nat → Nat} {N : Nat} (h16 : N ≤ 16) (hB : ∀ i, i < N → 1 ≤ B i ∧ B i ≤ 65535) (hx : ∀ i, i < N → gI m 40 i = nI (B i)) {v : Nat} (hv : v ≤ 99999) (b : Int32) : f_X11_bullets_50 FU (nI v) b (nI N) 0 (-1) 0 m = if b = 0 then some ((itr (gB B N v 0) (2 ^ N) (0, -1) 0).1, m) else some ((itr (gB B N v 0) (2 ^ N) (0, -1) 0).2, m) := by
  have hN : 2 ^ N ≤ 2 ^ 16 := Nat.pow_le_pow_right (by omega) h16
  refine loop_fu (fun n (s : Int32 × Int32) i => f_X11_bullets_50 n (nI v) b (nI N) s.1 s.2 (nI i) m) (gB B N v 0) (fun s => if b = 0 then some (s.1, m) else some (s.2, m)) (2 ^ N) (by omega) ?_ ?_ (0, -1)
  · intro n s
    rw [e_X11_bullets_50, p2_I (by omega), if_pos (nI_le (Nat.le_refl _) (by omega))]
  · intro n s i hi
    have hb := bsum_le B N i
    have hb2 := btot_le (fun i hi => (hB i hi).2) N (Nat.le_refl _)
    have hb3 : N * 65535 ≤ 16 * 65535 := Nat.mul_le_mul_right _ h16
    rw [e_X11_bullets_50, p2_I (by omega), if_neg (nI_ge hi (by omega)), bul64_M h16 hB hx _ (by omega), gB, nI_1, Nat.zero_add]
    by_cases c : bsum B N i = v
    · rw [if_pos (by rw [c]), if_pos c]
      by_cases c2 : s.2 = -1
      · rw [if_pos c2, if_pos c2]
      · rw [if_neg c2, if_neg c2]
    · rw [if_neg (fun q => c ((nI_eq (by omega) (by omega)).mp q)), if_neg c]
theorem step28 (LW : Nat → Nat → LD → St → St → Prop) (hc : CongrL LW) : Step_28 (RelOf (RelB LW)) := by
  intro a b x m h
  obtain ⟨hA, ld, bk, L, s1, hb, hla, hw, hd⟩ := id h
  have X := e_X10_bullets a b x
  have M := e_X11_bullets a b m
  rw [show (99999 : Int32) = nI 100000 - 1 from rfl, is_M (by omega)] at M
  dsimp only [Option.bind] at M
  by_cases c0 : a < 0
  · rw [if_pos c0] at X
    rw [inb_neg c0, if_pos (by decide)] at M
    exact ⟨_, _, _, X, M, h⟩
  rw [if_neg c0] at X
  obtain ⟨v, hv, rfl⟩ := nI_of c0
  by_cases c1 : 99999 < v
  · rw [if_pos (show (99999 : Int32) < nI v from nI_lt (a := 99999) c1 hv)] at X
    rw [inb_big hv (by omega), if_pos (by decide)] at M
    exact ⟨_, _, _, X, M, h⟩
  rw [if_neg (show ¬ (99999 : Int32) < nI v from nI_nlt (a := 99999) (b := v) (by omega) (by omega))] at X
  rw [inb_nI (by omega) (by omega), if_neg (by decide)] at M
  obtain ⟨cn, hcn, q1, q2, q3⟩ := hd.2.2.1
  rw [q2] at M
  rw [q1] at X
  -- how many bullets, and what they weigh
  let B : Nat → Nat := fun i => (gI x 9 i).toNatClampNeg
  have hBx : ∀ i, i < cn → 1 ≤ B i ∧ B i ≤ 65535 ∧ gI x 9 i = nI (B i) ∧ gI m 40 i = nI (B i) := by
    intro i hi
    obtain ⟨w, w1, w2, w3, w4⟩ := q3 i hi
    have : B i = w := by show (gI x 9 i).toNatClampNeg = w; rw [w3, nI_clamp (by omega)]
    rw [this]; exact ⟨w1, w2, w3, w4⟩
  have hN : min 16 cn ≤ 16 := by omega
  have hB : ∀ i, i < min 16 cn → 1 ≤ B i ∧ B i ≤ 65535 := fun i hi => ⟨(hBx i (by omega)).1, (hBx i (by omega)).2.1⟩
  have hS : ∃ σ', BX B (min 16 cn) x (itr (gB B (min 16 cn) v 0) (2 ^ min 16 cn) (0, -1) 0) σ' ∧ f_X9_seekBullets 9 (nI cn) (nI v) x = some ((), σ') := by
    obtain ⟨σ', g1, g2⟩ := seek_X hN hB (fun i hi => (hBx i (by omega)).2.2.1) (v := v) (by omega)
    refine ⟨σ', g1, ?_⟩
    rw [e_X9_seekBullets, e_J9_min_7cf53, show Int32.ofNat (lnX 9) = nI 30 from rfl]
    have k1 : (if nI 30 < nI cn then some (nI 30, x) else some (nI cn, x)) = some (nI cn, x) := by rw [if_neg (nI_nlt (by omega) (by omega))]
    rw [k1]
    dsimp only [Option.bind]
    rw [e_J9_min_7cf53]
    have k2 : (if nI cn < (16 : Int32) then some (nI cn, x) else some ((16 : Int32), x)) = some (nI (min 16 cn), x) := by
      by_cases c : cn < 16
      · rw [if_pos (show nI cn < (16 : Int32) from nI_lt (b := 16) c (by omega)), show min 16 cn = cn by omega]
      · rw [if_neg (show ¬ nI cn < (16 : Int32) from nI_nlt (b := 16) (by omega) (by omega)), show min 16 cn = 16 by omega]
        rfl
    rw [k2]
    dsimp only
    rw [e_J9_max_7cf53]
    have k3 : (if (0 : Int32) < nI (min 16 cn) then some (nI (min 16 cn), x) else some ((0 : Int32), x)) = some (nI (min 16 cn), x) := by
      by_cases c : 0 < min 16 cn
      · rw [if_pos (show (0 : Int32) < nI (min 16 cn) from nI_lt (a := 0) c (by omega))]
      · rw [if_neg (show ¬ (0 : Int32) < nI (min 16 cn) from nI_nlt (a := 0) (by omega) (by omega)), show min 16 cn = 0 by omega]
        rfl
    rw [k3]
    dsimp only
    rw [if_pos (by decide)]
    exact g2
  obtain ⟨σ', g1, g2⟩ := hS
  have hM : (if (16 : Int32) ≤ nI cn then f_X11_bullets_50 FU (nI v) b 16 0 (-1) 0 m else ltt (nI cn) fun w4 => f_X11_bullets_50 FU (nI v) b w4 0 (-1) 0 m) = if b = 0 then some ((itr (gB B (min 16 cn) v 0) (2 ^ min 16 cn) (0, -1) 0).1, m) else some ((itr (gB B (min 16 cn) v 0) (2 ^ min 16 cn) (0, -1) 0).2, m) := by
    rw [← bul50_M hN hB (fun i hi => (hBx i (by omega)).2.2.2) (by omega) b]
    by_cases c : cn < 16
    · rw [if_neg (show ¬ (16 : Int32) ≤ nI cn from nI_ge (b := 16) c (by omega)), show min 16 cn = cn by omega]
      rfl
    · rw [if_pos (show (16 : Int32) ≤ nI cn from nI_le (a := 16) (by omega) (by omega)), show min 16 cn = 16 by omega]
      rfl
  rw [hM] at M
  rw [g2] at X
  dsimp only [Option.bind] at X
  rw [g1.2.2.2.1, g1.2.2.2.2] at X
  by_cases b0 : b = 0
  · rw [if_pos b0] at M
    rw [if_neg (by rw [b0]; decide), if_pos (by rw [b0]; decide), if_pos b0] at X
    rw [if_pos b0] at M
    exact ⟨_, _, _, X, M, scr hc g1.1 (ScM.rf m) h⟩
  rw [if_neg b0] at M
  by_cases b1 : b = 1
  · rw [if_pos b1, if_neg b0] at M
    rw [if_neg (by rw [b1]; decide), if_pos (by rw [b1]; decide), if_neg b0] at X
    exact ⟨_, _, _, X, M, scr hc g1.1 (ScM.rf m) h⟩
  rw [if_neg b1] at M
  by_cases bn : b < 0
  · rw [if_pos bn] at X
    exact ⟨_, _, _, X, M, h⟩
  rw [if_neg bn] at X
  obtain ⟨j, hj, rfl⟩ := nI_of bn
  have : 2 ≤ j := by
    rcases Nat.lt_or_ge j 2 with w | w
    · have : j = 0 ∨ j = 1 := by omega
      rcases this with rfl | rfl
      · exact absurd rfl b0
      · exact absurd rfl b1
    · exact w
  rw [if_neg (show ¬ nI j ≤ (1 : Int32) from nI_ge (a := 1) (by omega) hj)] at X
  exact ⟨_, _, _, X, M, h⟩
end Bullets
