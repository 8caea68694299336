/-! ===== gain ===== -/
section Gain
variable {ld bk : Nat} {L : LD} {x m : St}
/-- letters that are lacking of the first i of a title -/
def lk (x : St) (L : LD) (p t i k : Nat) : Nat := ((L.tn t).take i).count k - loN x (26 * p + k)
theorem lk_s {p t i : Nat} (hi : i < (L.tn t).length) (k : Nat) : lk x L p t (i + 1) k = lk x L p t i k + if k = (L.tn t)[i] ∧ loN x (26 * p + k) ≤ ((L.tn t).take i).count k then 1 else 0 := by
  unfold lk
  rw [cnt_s hi]
  by_cases e : k = (L.tn t)[i]
  · rw [if_pos e]
    by_cases e2 : loN x (26 * p + k) ≤ ((L.tn t).take i).count k
    · rw [if_pos ⟨e, e2⟩]; omega
    · rw [if_neg (fun q => e2 q.2)]; omega
  · rw [if_neg e, if_neg (fun q => e q.1)]; omega
theorem lk_mono {p t i : Nat} (k : Nat) : lk x L p t i k ≤ lk x L p t (L.tn t).length k := by
  unfold lk
  rw [List.take_length]
  have : ((L.tn t).take i).count k ≤ (L.tn t).count k := (List.take_sublist i (L.tn t)).count_le k
  omega
theorem oz_e (hl : RLa ld bk L x m) {k : Nat} (hk : k < 26) : gI x (ld + 16) k = nI (ozN x ld k) ∧ gI m 2 (26 * bk + k) = nI (ozN x ld k) ∧ ozN x ld k ≤ 99 := by
  obtain ⟨o, -, ho, e1, e2⟩ := hl.2.2.2.2.2.2.2.2.2 k hk
  have : ozN x ld k = o := by rw [ozN, e1, nI_clamp (by omega)]
  rw [this]; exact ⟨e1, e2, ho⟩
def lz (x : St) (ld : Nat) (L : LD) (p t i : Nat) : Nat := lsum (ozN x ld) (lk x L p t i) 26
theorem lz_s (hl : RLa ld bk L x m) {p t i : Nat} (ht : t < L.nt) (hi : i < (L.tn t).length) : lz x ld L p t (i + 1) = lz x ld L p t i + if loN x (26 * p + (L.tn t)[i]) ≤ ((L.tn t).take i).count (L.tn t)[i] then ozN x ld (L.tn t)[i] else 0 := by
  have hc := (nmT hl ht).2.2 _ (List.getElem_mem hi)
  have u := lsum_u (W := ozN x ld) (f := lk x L p t i) (g := lk x L p t (i + 1)) (n := 26) (i := (L.tn t)[i]) hc (fun j _ hj => by rw [lk_s hi, if_neg (fun q => hj q.1), Nat.add_zero])
  rw [lk_s hi, Nat.mod_eq_of_lt hc] at u
  unfold lz
  by_cases e : loN x (26 * p + (L.tn t)[i]) ≤ ((L.tn t).take i).count (L.tn t)[i]
  · rw [if_pos ⟨rfl, e⟩, Nat.mul_add, Nat.mul_one] at u
    rw [if_pos e]; omega
  · rw [if_neg (fun q => e q.2), show lk x L p t i (L.tn t)[i] + 0 = lk x L p t i (L.tn t)[i] from rfl] at u
    rw [if_neg e]; omega
theorem lz_le (hl : RLa ld bk L x m) {p t : Nat} (ht : t < L.nt) : ∀ i, i ≤ (L.tn t).length → lz x ld L p t i ≤ 99 * i := by
  intro i
  induction i with
  | zero =>
    intro _
    have : ∀ n, lsum (ozN x ld) (lk x L p t 0) n = 0 := by
      intro n
      induction n with
      | zero => rfl
      | succ n ih => rw [lsum, ih, lk, List.take_zero, List.count_nil, Nat.zero_sub, Nat.mul_zero]
    rw [lz, this]; omega
  | succ i ih =>
    intro hi
    have := ih (by omega)
    have hc := (nmT hl ht).2.2 _ (List.getElem_mem (show i < (L.tn t).length by omega))
    have := (oz_e hl hc).2.2
    rw [lz_s hl ht (by omega)]
    split <;> omega
theorem lz_0 {p t : Nat} : lz x ld L p t 0 = 0 := by
  have : ∀ n, lsum (ozN x ld) (lk x L p t 0) n = 0 := by
    intro n
    induction n with
    | zero => rfl
    | succ n ih => rw [lsum, ih, lk, List.take_zero, List.count_nil, Nat.zero_sub, Nat.mul_zero]
  exact this 26
/-- enough letters -/
def Enough (x : St) (L : LD) (p t : Nat) : Prop := ∀ k, k < 26 → lk x L p t (L.tn t).length k ≤ loN x (208 + k)
theorem gain35_X (h : K ld bk L x m) {p t : Nat} (hp : p < L.np) (ht : t < L.nt) : (Enough x L p t ∧ f_X2_gainOunces_35 FU (nI p) (nI t) (nI (pk5 (L.tn t))) (nI (L.tn t).length) 0 0 x = ((f_X2_loadOf (nI p) x).bind fun q1 => (f_X2_limitOf (nI p) q1.2).bind fun q2 => if q2.1 < (q1.1 + nI (lz x ld L p t (L.tn t).length)) then (some ((-1 : Int32), q2.2)) else (some (nI (lz x ld L p t (L.tn t).length), q2.2)))) ∨ (¬ Enough x L p t ∧ f_X2_gainOunces_35 FU (nI p) (nI t) (nI (pk5 (L.tn t))) (nI (L.tn t).length) 0 0 x = some (-1, x)) := by
  obtain ⟨-, hs, hb, hl, hw, hd⟩ := id h
  obtain ⟨p1, p6, hc⟩ := nmT hl ht
  have h8 := hl.1.1
  have key : ∀ d i n, i + d = (L.tn t).length → d < n → (∀ k, k < 26 → lk x L p t i k ≤ loN x (208 + k)) → (Enough x L p t ∧ f_X2_gainOunces_35 n (nI p) (nI t) (nI (pk5 (L.tn t))) (nI (L.tn t).length) (nI (lz x ld L p t i)) (nI i) x = ((f_X2_loadOf (nI p) x).bind fun q1 => (f_X2_limitOf (nI p) q1.2).bind fun q2 => if q2.1 < (q1.1 + nI (lz x ld L p t (L.tn t).length)) then (some ((-1 : Int32), q2.2)) else (some (nI (lz x ld L p t (L.tn t).length), q2.2)))) ∨ (¬ Enough x L p t ∧ f_X2_gainOunces_35 n (nI p) (nI t) (nI (pk5 (L.tn t))) (nI (L.tn t).length) (nI (lz x ld L p t i)) (nI i) x = some (-1, x)) := by
    intro d
    induction d with
    | zero =>
      intro i n hi hn hok
      obtain ⟨n, rfl⟩ : ∃ k, n = k + 1 := ⟨n - 1, by omega⟩
      have : i = (L.tn t).length := by omega
      subst this
      refine Or.inl ⟨hok, ?_⟩
      rw [e_X2_gainOunces_35, if_pos (nI_le (Nat.le_refl _) (by omega))]
    | succ d ih =>
      intro i n hi hn hok
      obtain ⟨n, rfl⟩ : ∃ k, n = k + 1 := ⟨n - 1, by omega⟩
      have hil : i < (L.tn t).length := by omega
      have hcl := hc _ (List.getElem_mem hil)
      have lo1 := lo_e h (i := 26 * p + (L.tn t)[i]) (by omega)
      have lo2 := lo_e h (i := 208 + (L.tn t)[i]) (by omega)
      have oz := oz_e hl hcl
      have r1 : ((L.tn t).take (i + 1)).count (L.tn t)[i] = ((L.tn t).take i).count (L.tn t)[i] + 1 := by rw [cnt_s hil, if_pos rfl]
      have r6 : ((L.tn t).take i).count (L.tn t)[i] ≤ 6 := Nat.le_trans List.count_le_length (by rw [List.length_take]; omega)
      have e : f_X2_gainOunces_35 (n + 1) (nI p) (nI t) (nI (pk5 (L.tn t))) (nI (L.tn t).length) (nI (lz x ld L p t i)) (nI i) x = (if nI (((L.tn t).take i).count (L.tn t)[i] + 1) - nI (loN x (26 * p + (L.tn t)[i])) ≤ nI (loN x (208 + (L.tn t)[i])) then (if nI (((L.tn t).take i).count (L.tn t)[i] + 1) - nI (loN x (26 * p + (L.tn t)[i])) ≤ 0 then f_X2_gainOunces_35 n (nI p) (nI t) (nI (pk5 (L.tn t))) (nI (L.tn t).length) (nI (lz x ld L p t i)) (nI (i + 1)) x else f_X2_gainOunces_35 n (nI p) (nI t) (nI (pk5 (L.tn t))) (nI (L.tn t).length) (nI (lz x ld L p t i) + nI (ozN x ld (L.tn t)[i])) (nI (i + 1)) x) else some (-1, x)) := by
        rw [e_X2_gainOunces_35, if_neg (nI_ge hil (by omega)), letter_X hc p6, if_pos (inb_nI hil (by omega)), ix_nI (by omega), show (L.tn t).getD i 0 = (L.tn t)[i] by simp [List.getD, hil]]
        dsimp only [Option.bind, ltt]
        rw [hs.1, if_pos (landB_of hs.2.1), rank_X hs hl ht hil, r1]
        dsimp only
        rw [count_X (by omega) hcl, lo1.1]
        dsimp only
        rw [show (8 : Int32) = nI 8 from rfl, count_X (r := 8) (by omega) hcl, show 26 * 8 + (L.tn t)[i] = 208 + (L.tn t)[i] from rfl, lo2.1]
        dsimp only
        rw [hs.1, if_pos (landB_of hs.2.1), ouncesOf_X hcl, oz.1, nI_1, show (0 : Int32) = nI 0 from rfl, nI_add, Nat.add_zero]
        rfl
      rw [e]
      have z0 : (0 : Int32).toInt = 0 := rfl
      have ts : (nI (((L.tn t).take i).count (L.tn t)[i] + 1) - nI (loN x (26 * p + (L.tn t)[i]))).toInt = ((((L.tn t).take i).count (L.tn t)[i] + 1 : Nat) : Int) - loN x (26 * p + (L.tn t)[i]) := pk_sub_toInt (by omega) (by omega)
      have th : (nI (loN x (208 + (L.tn t)[i]))).toInt = (loN x (208 + (L.tn t)[i]) : Int) := nI_toInt (by omega)
      by_cases c1 : loN x (26 * p + (L.tn t)[i]) ≤ ((L.tn t).take i).count (L.tn t)[i]
      · by_cases c2 : lk x L p t (i + 1) (L.tn t)[i] ≤ loN x (208 + (L.tn t)[i])
        · have c2' := c2
          unfold lk at c2'
          rw [r1] at c2'
          rw [if_pos (by rw [Int32.le_iff_toInt_le, ts, th]; omega), if_neg (fun q => by rw [Int32.le_iff_toInt_le, ts, z0] at q; omega), nI_add]
          have := ih (i + 1) n (by omega) (by omega) (fun k hk => by
            by_cases e : k = (L.tn t)[i]
            · rw [e]; exact c2
            · rw [lk_s hil, if_neg (fun q => e q.1), Nat.add_zero]; exact hok k hk)
          rw [lz_s hl ht hil, if_pos c1] at this
          exact this
        · refine Or.inr ⟨fun en => c2 (Nat.le_trans (lk_mono _) (en _ hcl)), ?_⟩
          unfold lk at c2
          rw [r1] at c2
          rw [if_neg (fun q => by rw [Int32.le_iff_toInt_le, ts, th] at q; omega)]
      · rw [if_pos (by rw [Int32.le_iff_toInt_le, ts, th]; omega), if_pos (by rw [Int32.le_iff_toInt_le, ts, z0]; omega)]
        have := ih (i + 1) n (by omega) (by omega) (fun k hk => by
          rw [lk_s hil, if_neg (fun q => c1 (by rw [← q.1]; exact q.2)), Nat.add_zero]; exact hok k hk)
        rw [lz_s hl ht hil, if_neg c1, Nat.add_zero] at this
        exact this
  have := key (L.tn t).length 0 FU (by omega) (by rw [FU_eq]; omega) (fun k _ => by rw [lk, List.take_zero, List.count_nil, Nat.zero_sub]; exact Nat.zero_le _)
  rw [lz_0] at this
  exact this
theorem lacks_M' (h : K ld bk L x m) {p t k : Nat} (hp : p < L.np) (ht : t < L.nt) (hk : k < 26) {σ : St} (b' : RBk bk σ) (l' : RLa ld bk L x σ) (e : gI σ 36 (26 * p + k) = nI (loN x (26 * p + k))) : f_X11_lacks (nI p) (nI t) (nI k) σ = some (nI (lk x L p t (L.tn t).length k), σ) := by
  obtain ⟨-, hs, hb, hl, hw, hd⟩ := id h
  have h8 := hl.1.1
  have lo := (lo_e h (i := 26 * p + k) (by omega)).2.2
  have c6 : (L.tn t).count k ≤ 6 := Nat.le_trans List.count_le_length (nmT hl ht).2.1
  have ts : (nI ((L.tn t).count k) - nI (loN x (26 * p + k))).toInt = ((L.tn t).count k : Int) - loN x (26 * p + k) := pk_sub_toInt (by omega) (by omega)
  have z0 : (0 : Int32).toInt = 0 := rfl
  rw [e_X11_lacks, often_M b' l' ht hk]
  dsimp only [Option.bind]
  rw [show (26 : Int32) = nI 26 from rfl, pk_mul, nI_add, if_pos (inb_nI (by omega) (by omega)), ix_nI (by omega), e]
  dsimp only [ltt]
  unfold lk
  rw [List.take_length]
  by_cases c : loN x (26 * p + k) ≤ (L.tn t).count k
  · rw [if_pos (by rw [Int32.le_iff_toInt_le, ts, z0]; omega), pk_sub c]
  · rw [if_neg (fun q => by rw [Int32.le_iff_toInt_le, ts, z0] at q; omega), show (L.tn t).count k - loN x (26 * p + k) = 0 by omega]
    rfl
theorem lz_M (h : K ld bk L x m) {p t : Nat} (hp : p < L.np) (ht : t < L.nt) : f_X11_lackOunces (nI p) (nI t) m = some (nI (lz x ld L p t (L.tn t).length), m) := by
  obtain ⟨-, hs, hb, hl, hw, hd⟩ := id h
  have h8 := hl.1.1
  obtain ⟨a, ea, e⟩ := loop_exF (fun n (a : Int32) i => f_X11_lackOunces_5 n (nI p) (nI t) a (nI i) m) (fun a => some (a, m)) 26 (by omega) (fun i a => a = nI (lsum (ozN x ld) (lk x L p t (L.tn t).length) i)) (fun n a ha => by
    rw [e_X11_lackOunces_5, if_pos (by decide)]) (fun n a i hi ha => by
    refine ⟨_, ?_, rfl⟩
    rw [e_X11_lackOunces_5, if_neg (show ¬ (26 : Int32) ≤ nI i from nI_ge (b := 26) hi (by omega)), lacks_M' h hp ht hi hb hl (lo_e h (by omega)).2.1]
    dsimp only [Option.bind]
    rw [weight_M hb hi, (oz_e hl hi).2.1]
    dsimp only [ltt]
    rw [pk_mul, ha, nI_add, nI_1, lsum, Nat.mod_eq_of_lt hi, Nat.mul_comm]) 0 rfl
  rw [e_X11_lackOunces]
  refine Eq.trans e ?_
  rw [ea, lz]
/-- may a title be gained, and for how many ounces of the heap's -/
theorem canB (h : K ld bk L x m) {p t : Nat} (hp : p < L.np) (ht : t < L.nt) : ∃ (ok : Bool) (x1 m1 : St), ScX x x1 ∧ ScM m m1 ∧ f_X2_gainOunces (nI p) (nI t) x = some ((if ok = true then nI (lz x ld L p t (L.tn t).length) else -1), x1) ∧ f_X11_canGain (nI p) (nI t) m = some (bi ok, m1) ∧ (ok = true → hasT x p t = false ∧ Enough x L p t) := by
  obtain ⟨-, hs, hb, hl, hw, hd⟩ := id h
  obtain ⟨p1, p6, hc⟩ := nmT hl ht
  have h8 := hl.1.1
  have h12 := hl.2.1.1
  rw [e_X2_gainOunces, lacks_X hs hl hd hp ht, e_X11_canGain, hasT_M hl hd (by omega) (by omega)]
  dsimp only [Option.bind]
  cases hh : hasT x p t
  · rw [if_neg (by decide), if_pos (by decide)]
    dsimp only [ltt]
    rw [hs.1, if_pos (landB_of hs.2.1), nameT_X hs hl ht]
    dsimp only
    rw [len_X hc p6]
    dsimp only
    -- there: the letters
    have mk : ∀ d i n, i + d = 26 → d < n → (∀ k, k < i → lk x L p t (L.tn t).length k ≤ loN x (208 + k)) → (Enough x L p t ∧ f_X11_canGain_13 n (nI p) (nI t) (nI i) m = ((f_X11_loadOf (nI p) m).bind fun q1 => (f_X11_lackOunces (nI p) (nI t) q1.2).bind fun q2 => (f_X11_limitOf (nI p) q2.2).bind fun q3 => if q3.1 < (q1.1 + q2.1) then (some ((0 : Int32), q3.2)) else (some ((1 : Int32), q3.2)))) ∨ (¬ Enough x L p t ∧ f_X11_canGain_13 n (nI p) (nI t) (nI i) m = some (0, m)) := by
      intro d
      induction d with
      | zero =>
        intro i n hi hn hok
        obtain ⟨n, rfl⟩ : ∃ k, n = k + 1 := ⟨n - 1, by omega⟩
        have : i = 26 := by omega
        subst this
        exact Or.inl ⟨hok, by rw [e_X11_canGain_13, if_pos (by decide)]⟩
      | succ d ih =>
        intro i n hi hn hok
        obtain ⟨n, rfl⟩ : ∃ k, n = k + 1 := ⟨n - 1, by omega⟩
        have lo2 := lo_e h (i := 208 + i) (by omega)
        have c6 : lk x L p t (L.tn t).length i ≤ 6 := Nat.le_trans (Nat.sub_le _ _) (by rw [List.take_length]; exact Nat.le_trans List.count_le_length p6)
        rw [e_X11_canGain_13, if_neg (show ¬ (26 : Int32) ≤ nI i from nI_ge (b := 26) (by omega) (by omega)), lacks_M' h hp ht (by omega) hb hl (lo_e h (by omega)).2.1]
        dsimp only [Option.bind]
        rw [show (208 : Int32) = nI 208 from rfl, nI_add, if_pos (inb_nI (by omega) (by omega)), ix_nI (by omega), lo2.2.1, nI_1]
        by_cases c : lk x L p t (L.tn t).length i ≤ loN x (208 + i)
        · rw [if_pos (nI_le c (by omega))]
          exact ih (i + 1) n (by omega) (by omega) (fun k hk => by
            by_cases e : k = i
            · rw [e]; exact c
            · exact hok k (by omega))
        · rw [if_neg (nI_ge (by omega) (by omega))]
          exact Or.inr ⟨fun en => c (en i (by omega)), rfl⟩
    have M13 := mk 26 0 FU (by omega) (by rw [FU_eq]; omega) (fun k hk => by omega)
    have X35 := gain35_X h hp ht
    rcases X35 with ⟨en, eX⟩ | ⟨ne, eX⟩
    · rcases M13 with ⟨-, eM⟩ | ⟨ne, -⟩
      · obtain ⟨n1, n2⟩ := load_N hl hd (p := p) (by omega)
        obtain ⟨k, σ1, τ1, k1, q1, q2, e1, e2⟩ := limB hs hb hl hd hw hp
        have hz := lz_le hl (p := p) ht (L.tn t).length (Nat.le_refl _)
        have eX' : f_X2_gainOunces_35 FU (nI p) (nI t) (nI (pk5 (L.tn t))) (nI (L.tn t).length) 0 0 x = if nI k < nI (loadN x ld L p + lz x ld L p t (L.tn t).length) then some (-1, σ1) else some (nI (lz x ld L p t (L.tn t).length), σ1) := by
          rw [eX, load_X hs hl hd (by omega), n1]
          dsimp only [Option.bind]
          rw [e1]
          dsimp only
          rw [nI_add]
        have eM' : f_X11_canGain_13 FU (nI p) (nI t) 0 m = if nI k < nI (loadN x ld L p + lz x ld L p t (L.tn t).length) then some (0, τ1) else some (1, τ1) := by
          refine Eq.trans eM ?_
          rw [load_M hb hl hd (by omega), n1]
          dsimp only [Option.bind]
          rw [lz_M h hp ht]
          dsimp only
          rw [e2]
          dsimp only
          rw [nI_add]
        rw [eX', eM']
        by_cases c : nI k < nI (loadN x ld L p + lz x ld L p t (L.tn t).length)
        · rw [if_pos c, if_pos c]
          exact ⟨false, σ1, τ1, q1, q2, rfl, rfl, fun e => by cases e⟩
        · rw [if_neg c, if_neg c]
          exact ⟨true, σ1, τ1, q1, q2, rfl, rfl, fun _ => ⟨rfl, en⟩⟩
      · exact absurd en ne
    · rcases M13 with ⟨en, -⟩ | ⟨-, eM⟩
      · exact absurd en ne
      · rw [eX]
        exact ⟨false, x, m, ScX.rf x, ScM.rf m, rfl, eM, fun e => by cases e⟩
  · rw [if_pos (by decide), if_neg (by decide)]
    exact ⟨false, x, m, ScX.rf x, ScM.rf m, rfl, rfl, fun e => by cases e⟩
end Gain
