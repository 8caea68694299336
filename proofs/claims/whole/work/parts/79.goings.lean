/-! ===== goings, the reference's side ===== -/
theorem rest_I {q s : Nat} (h : s &&& q = s) : nI q &&& (nI s ^^^ (-1)) = nI (q ^^^ s) := by
  apply Int32.toBitVec_inj.mp
  apply BitVec.eq_of_getLsbD_eq
  intro i hi
  have hm : (-1 : Int32).toBitVec = BitVec.allOnes 32 := rfl
  have ht : s.testBit i = true → q.testBit i = true := by
    intro e
    rw [← h, Nat.testBit_and, Bool.and_eq_true] at e
    exact e.2
  simp only [nI, Int32.toBitVec_and, Int32.toBitVec_xor, hm, Int32.toBitVec_ofNat', BitVec.getLsbD_and, BitVec.getLsbD_xor, BitVec.getLsbD_ofNat, BitVec.getLsbD_allOnes, hi, decide_true, Bool.true_and, Nat.testBit_xor]
  cases e : s.testBit i
  · cases q.testBit i <;> rfl
  · rw [ht e]; rfl
theorem sub_t {s q : Nat} (h : s &&& q = s) {p : Nat} (e : s.testBit p = true) : q.testBit p = true := by
  rw [← h, Nat.testBit_and, Bool.and_eq_true] at e
  exact e.2
theorem sub_of {s q : Nat} (h : ∀ p, s.testBit p = true → q.testBit p = true) : s &&& q = s := by
  apply Nat.eq_of_testBit_eq
  intro p
  rw [Nat.testBit_and]
  cases e : s.testBit p
  · rfl
  · rw [h p e]; rfl
theorem rest_t {s q : Nat} (h : s &&& q = s) (p : Nat) : (q ^^^ s).testBit p = (q.testBit p && !s.testBit p) := by
  rw [Nat.testBit_xor]
  cases e : s.testBit p
  · cases q.testBit p <;> rfl
  · rw [sub_t h e]; rfl
theorem rest_s {s q : Nat} (h : s &&& q = s) : (q ^^^ s) &&& q = q ^^^ s := sub_of (fun p e => by
  rw [rest_t h, Bool.and_eq_true] at e
  exact e.1)
theorem rest_lt {s q : Nat} (h : s &&& q = s) (h0 : 0 < s) : q ^^^ s < q := by
  have h1 := sub_lt (rest_s h)
  rcases Nat.lt_or_ge (q ^^^ s) q with w | w
  · exact w
  · have e : q ^^^ s = q := by omega
    have : s = 0 := by
      have k : q ^^^ (q ^^^ s) = q ^^^ q := by rw [e]
      rw [← Nat.xor_assoc, Nat.xor_self, Nat.zero_xor] at k
      exact k
    omega
theorem tb0 {q n : Nat} (hq : q < 2 ^ n) (h : ∀ p, p < n → q.testBit p = false) : q = 0 := by
  apply Nat.eq_of_testBit_eq
  intro p
  rw [Nat.zero_testBit]
  by_cases c : p < n
  · exact h p c
  · exact Nat.testBit_lt_two_pow (Nat.lt_of_lt_of_le hq (Nat.pow_le_pow_right (by omega) (by omega)))
theorem tb_ge {q n p : Nat} (hq : q < 2 ^ n) (hp : n ≤ p) : q.testBit p = false := Nat.testBit_lt_two_pow (Nat.lt_of_lt_of_le hq (Nat.pow_le_pow_right (by omega) hp))
def InvG (w : Nat → Nat) (C q : Nat) (A : Nat → Option Nat) (sub : Nat) (o : Option Nat) : Prop := (∀ k, o = some k → k ≤ 16 ∧ Fit w 8 C q.testBit k) ∧ (psum w 8 q.testBit ≤ C → ∃ k, o = some k ∧ k ≤ 1) ∧ ∀ t a b, t &&& q = t → sub < t → t < q → A t = some a → A (q ^^^ t) = some b → ∃ k, o = some k ∧ k ≤ a + b
theorem InvG.fin {w : Nat → Nat} {C q : Nat} {A : Nat → Option Nat} {o : Option Nat} (hq0 : 0 < q) (hq : q < 2 ^ 8) (hA : ∀ t, t < q → t &&& q = t → GRo w 8 C t.testBit (A t)) (h : InvG w C q A 0 o) : GRo w 8 C q.testBit o := by
  obtain ⟨h1, h2, h3⟩ := h
  refine ⟨fun k e => (h1 k e).2, fun j => ?_⟩
  induction j with
  | zero =>
    intro hf
    have := tb0 hq hf.zero
    omega
  | succ j ih =>
    intro hf
    rcases Nat.eq_zero_or_pos j with e | e
    · subst e
      exact h2 (Fit.one.mp hf)
    · obtain ⟨R, r1, r2⟩ := hf.split
      obtain ⟨t, t1, t2⟩ := mask_of 8 (fun p => q.testBit p && R p)
      have ts : t &&& q = t := sub_of (fun p e => by
        by_cases c : p < 8
        · rw [t2 p c, Bool.and_eq_true] at e; exact e.1
        · rw [tb_ge t1 (by omega)] at e; cases e)
      have rs : ∀ p, p < 8 → (q.testBit p && !R p) = (q ^^^ t).testBit p := by
        intro p hp
        rw [rest_t ts, t2 p hp]
        cases q.testBit p <;> cases R p <;> rfl
      rcases Nat.eq_zero_or_pos t with e0 | e0
      · subst e0
        obtain ⟨k, k1, k2⟩ := ih (r2.congr (fun p hp => by rw [rs p hp, Nat.xor_zero]))
        exact ⟨k, k1, by omega⟩
      · have tle := sub_lt ts
        have pt : psum w 8 t.testBit ≤ C := by rw [psum_congr (fun p hp => t2 p hp)]; exact r1
        by_cases eq : t = q
        · subst eq
          obtain ⟨k, k1, k2⟩ := h2 pt
          exact ⟨k, k1, by omega⟩
        · obtain ⟨a, a1, a2⟩ := (hA t (by omega) ts).2 1 (Fit.one.mpr pt)
          obtain ⟨b, b1, b2⟩ := (hA (q ^^^ t) (rest_lt ts e0) (rest_s ts)).2 j (r2.congr rs)
          obtain ⟨k, k1, k2⟩ := h3 t a b ts e0 (by omega) a1 b1
          exact ⟨k, k1, by omega⟩
section GoingsM
variable {ld bk : Nat} {L : LD} {x m : St}
def AtG (m : St) (M2 q : Nat) (A : Nat → Option Nat) (o : Option Nat) (σ : St) : Prop := ScM m σ ∧ ∀ t, t < M2 → gI σ 44 t = enc (if t = q then o else A t)
theorem enc_m1 {o : Option Nat} (h : ∀ k, o = some k → k ≤ 16) : enc o = -1 ↔ o = none := by
  cases o with
  | none => exact ⟨fun _ => rfl, fun _ => rfl⟩
  | some k =>
    have := h k rfl
    constructor
    · intro e
      have e : nI k = -1 := e
      have k0 : ¬ nI k < 0 := nI_pos (by omega)
      rw [e] at k0
      exact absurd (by decide) k0
    · intro e; cases e
theorem g190_M {w : Nat → Nat} {S C q M2 : Nat} {A : Nat → Option Nat} (hM : M2 ≤ 256) (hq0 : 0 < q) (hq : q < M2) (hA : ∀ t, t < q → t &&& q = t → GRo w 8 C t.testBit (A t)) (K : Int32 → Int32 → St → Option (Int32 × St)) : ∀ N sub n o σ, sub ≤ N → sub < n → sub &&& q = sub → sub < q → AtG m M2 q A o σ → InvG w C q A sub o → ∃ σ' o', f_X11_goings_190 K n (nI S) (nI q) (nI sub) σ = K (nI S) (nI q + 1) σ' ∧ AtG m M2 q A o' σ' ∧ InvG w C q A 0 o' := by
  intro N
  induction N with
  | zero =>
    intro sub n o σ h1 h2 h3 h4 h5 h6
    obtain ⟨n, rfl⟩ : ∃ k, n = k + 1 := ⟨n - 1, by omega⟩
    have : sub = 0 := by omega
    subst this
    refine ⟨σ, o, ?_, h5, h6⟩
    rw [e_X11_goings_190, if_pos (by decide)]
  | succ N ih =>
    intro sub n o σ h1 h2 h3 h4 h5 h6
    obtain ⟨n, rfl⟩ : ∃ k, n = k + 1 := ⟨n - 1, by omega⟩
    rcases Nat.eq_zero_or_pos sub with e0 | e0
    · subst e0
      refine ⟨σ, o, ?_, h5, h6⟩
      rw [e_X11_goings_190, if_pos (by decide)]
    · have hr := rest_lt h3 e0
      have hrs := rest_s h3
      have gs := hA sub h4 h3
      have gr := hA _ hr hrs
      have ss := sub_one_and (m := q) e0
      have sn : ((sub - 1) &&& q) &&& q = (sub - 1) &&& q := by rw [Nat.and_assoc, Nat.and_self]
      have v1 : gI σ 44 sub = enc (A sub) := by rw [h5.2 sub (by omega), if_neg (by omega)]
      have v2 : gI σ 44 (q ^^^ sub) = enc (A (q ^^^ sub)) := by rw [h5.2 _ (by omega), if_neg (by omega)]
      have v3 : gI σ 44 q = enc o := by rw [h5.2 q hq, if_pos rfl]
      have b1 : ∀ k, A sub = some k → k ≤ 16 := fun k e => by rw [e] at gs; have := gs.le; omega
      have b2 : ∀ k, A (q ^^^ sub) = some k → k ≤ 16 := fun k e => by rw [e] at gr; have := gr.le; omega
      -- the next part
      have nx : ∀ o', InvG w C q A sub o' → (∀ a b, A sub = some a → A (q ^^^ sub) = some b → ∃ k, o' = some k ∧ k ≤ a + b) → InvG w C q A ((sub - 1) &&& q) o' := by
        intro o' i h
        refine ⟨i.1, i.2.1, fun t a b t1 t2 t3 ta tb => ?_⟩
        rcases Nat.lt_trichotomy t sub with c | c | c
        · have := sub_next sub sub q t (Nat.le_refl _) h3 t1 c
          omega
        · subst c; exact h a b ta tb
        · exact i.2.2 t a b t1 c t3 ta tb
      rw [e_X11_goings_190, if_neg (nI_nle e0 (by omega)), rest_I h3, show nI sub - 1 = nI (sub - 1) from pk_sub (a := sub) (b := 1) (by omega), nI_and]
      dsimp only [ltt]
      rw [inb_nI (show sub < 256 by omega) (by omega), inb_nI (show q ^^^ sub < 256 by omega) (by omega), inb_nI (show q < 256 by omega) (by omega), ix_nI (by omega), ix_nI (by omega), ix_nI (by omega), v1, v2, v3]
      simp only [if_true]
      by_cases c1 : A sub = none
      · rw [if_pos ((enc_m1 b1).mpr c1)]
        exact ih _ n o σ (by omega) (by omega) sn (by omega) h5 (nx o h6 (fun a b ha => by rw [c1] at ha; cases ha))
      rw [if_neg (fun e => c1 ((enc_m1 b1).mp e))]
      by_cases c2 : A (q ^^^ sub) = none
      · rw [if_pos ((enc_m1 b2).mpr c2)]
        exact ih _ n o σ (by omega) (by omega) sn (by omega) h5 (nx o h6 (fun a b _ hb => by rw [c2] at hb; cases hb))
      rw [if_neg (fun e => c2 ((enc_m1 b2).mp e))]
      obtain ⟨a, ha⟩ := Option.ne_none_iff_exists'.mp c1
      obtain ⟨b, hb⟩ := Option.ne_none_iff_exists'.mp c2
      rw [ha] at gs
      rw [hb] at gr
      have la := gs.le
      have lb := gr.le
      have ff : Fit w 8 C q.testBit (a + b) := Fit.ad (Q1 := sub.testBit) (Q2 := (q ^^^ sub).testBit) (fun p hp => by
        rw [rest_t h3]
        cases e : sub.testBit p
        · cases q.testBit p <;> rfl
        · rw [sub_t h3 e]; rfl) (fun p hp e => by rw [rest_t h3, e]; cases q.testBit p <;> rfl) (gs.1 a rfl) (gr.1 b rfl)
      have en : enc (A sub) + enc (A (q ^^^ sub)) = nI (a + b) := by rw [ha, hb]; exact nI_add a b
      rw [en]
      have sets : AtG m M2 q A (some (a + b)) (sI σ 44 q (nI (a + b))) := by
        refine ⟨h5.1.tr (ScM.sI rfl), fun t ht => ?_⟩
        rw [gI_sI]
        by_cases c : t = q
        · rw [if_pos ⟨rfl, c⟩, if_pos c]; rfl
        · rw [if_neg (fun e => c e.2), h5.2 t ht, if_neg c, if_neg c]
      by_cases c3 : o = none
      · rw [if_pos ((enc_m1 (fun k e => (h6.1 k e).1)).mpr c3)]
        refine ih _ n (some (a + b)) _ (by omega) (by omega) sn (by omega) sets (nx _ ⟨fun k e => by cases e; exact ⟨by omega, ff⟩, fun hp => ?_, fun t a' b' t1 t2 t3 ta tb => ?_⟩ (fun a' b' ea eb => ?_))
        · obtain ⟨k, k1, -⟩ := h6.2.1 hp; rw [c3] at k1; cases k1
        · obtain ⟨k, k1, -⟩ := h6.2.2 t a' b' t1 t2 t3 ta tb; rw [c3] at k1; cases k1
        · rw [ha] at ea; rw [hb] at eb; cases ea; cases eb; exact ⟨_, rfl, Nat.le_refl _⟩
      · rw [if_neg (fun e => c3 ((enc_m1 (fun k e => (h6.1 k e).1)).mp e))]
        obtain ⟨k, hk⟩ := Option.ne_none_iff_exists'.mp c3
        subst hk
        have k16 := (h6.1 k rfl).1
        show ∃ σ' o', (if nI k ≤ nI (a + b) then _ else _) = _ ∧ _
        by_cases c4 : k ≤ a + b
        · rw [if_pos (nI_le c4 (by omega))]
          exact ih _ n (some k) σ (by omega) (by omega) sn (by omega) h5 (nx _ h6 (fun a' b' ea eb => by
            rw [ha] at ea; rw [hb] at eb; cases ea; cases eb; exact ⟨k, rfl, c4⟩))
        · rw [if_neg (nI_ge (by omega) (by omega))]
          refine ih _ n (some (a + b)) _ (by omega) (by omega) sn (by omega) sets (nx _ ⟨fun k e => by cases e; exact ⟨by omega, ff⟩, fun hp => ?_, fun t a' b' t1 t2 t3 ta tb => ?_⟩ (fun a' b' ea eb => ?_))
          · obtain ⟨j, k1, k2⟩ := h6.2.1 hp; cases k1; exact ⟨_, rfl, by omega⟩
          · obtain ⟨j, k1, k2⟩ := h6.2.2 t a' b' t1 t2 t3 ta tb; cases k1; exact ⟨_, rfl, by omega⟩
          · rw [ha] at ea; rw [hb] at eb; cases ea; cases eb; exact ⟨_, rfl, Nat.le_refl _⟩
def base (w : Nat → Nat) (C q : Nat) : Option Nat := if q = 0 then some 0 else if psum w 8 q.testBit ≤ C then some 1 else none
theorem g163_M {w : Nat → Nat} {S C M2 : Nat} (hM : M2 ≤ 256) (hS : S < M2) {σ : St} (h0 : ScM m σ) (h1 : ∀ t, t < M2 → gI σ 44 t = enc (base w C t)) : ∃ σ' o, ScM m σ' ∧ GRo w 8 C S.testBit o ∧ f_X11_goings_163 FU (nI S) 1 σ = some (enc o, σ') := by
  obtain ⟨σ', ⟨hs', A, ha, hd, -⟩, e⟩ := loop_exF (fun n (σ : St) i => f_X11_goings_163 n (nI S) (nI (i + 1)) σ) (fun σ => some (gI σ 44 S, σ)) S (by omega) (fun i σ => ScM m σ ∧ ∃ A : Nat → Option Nat, (∀ t, t < M2 → gI σ 44 t = enc (A t)) ∧ (∀ q, q ≤ i → q < M2 → q &&& S = q → GRo w 8 C q.testBit (A q)) ∧ ∀ q, i < q → q < M2 → A q = base w C q) (fun n σ h => by
    rw [e_X11_goings_163, if_pos (nI_lt (by omega) (by omega)), if_pos (inb_nI (by omega) (by omega)), ix_nI (by omega)]) (fun n σ i hi h => by
    obtain ⟨hs, A, a1, a2, a3⟩ := h
    by_cases c : (i + 1) &&& S = i + 1
    · have bs := a3 (i + 1) (by omega) (by omega)
      rw [base, if_neg (by omega)] at bs
      have hA : ∀ t, t < i + 1 → t &&& (i + 1) = t → GRo w 8 C t.testBit (A t) := fun t h1 h2 => a2 t (by omega) (by omega) (by rw [← h2, Nat.and_assoc, c])
      have at0 : AtG m M2 (i + 1) A (A (i + 1)) σ := ⟨hs, fun t ht => by
        by_cases e : t = i + 1
        · rw [if_pos e, a1 t ht, e]
        · rw [if_neg e]; exact a1 t ht⟩
      have iv0 : InvG w C (i + 1) A (((i + 1) - 1) &&& (i + 1)) (A (i + 1)) := by
        refine ⟨fun k e => ?_, fun hp => ⟨1, by rw [bs, if_pos hp], Nat.le_refl _⟩, fun t a b t1 t2 t3 => ?_⟩
        · rw [bs] at e
          by_cases cc : psum w 8 (i + 1).testBit ≤ C
          · rw [if_pos cc] at e; cases e; exact ⟨by omega, Fit.one.mpr cc⟩
          · rw [if_neg cc] at e; cases e
        · have := sub_next (i + 1) (i + 1) (i + 1) t (Nat.le_refl _) (Nat.and_self _) t1 t3
          omega
      obtain ⟨σ', o', e', g1, g2⟩ := g190_M (m := m) (S := S) (q := i + 1) hM (by omega) (show i + 1 < M2 by omega) hA (f_X11_goings_163 n) (i + 1) (((i + 1) - 1) &&& (i + 1)) FU (A (i + 1)) σ (by have := sub_one_and (s := i + 1) (m := i + 1) (by omega); omega) (by have := sub_one_and (s := i + 1) (m := i + 1) (by omega); rw [FU_eq]; omega) (by rw [Nat.and_assoc, Nat.and_self]) (sub_one_and (by omega)) at0 iv0
      refine ⟨σ', ?_, g1.1, fun t => if t = i + 1 then o' else A t, g1.2, fun q h1 h2 h3 => ?_, fun q h1 h2 => ?_⟩
      · rw [e_X11_goings_163, if_neg (nI_nlt (by omega) (by omega)), nI_and, if_pos (by rw [c]), show nI (i + 1) - 1 = nI (i + 1 - 1) from pk_sub (a := i + 1) (b := 1) (by omega), nI_and]
        dsimp only [ltt]
        rw [e', nI_1]
      · by_cases e : q = i + 1
        · rw [show (fun t => if t = i + 1 then o' else A t) q = o' from if_pos e, e]
          exact g2.fin (by omega) (by omega) hA
        · rw [show (fun t => if t = i + 1 then o' else A t) q = A q from if_neg e]; exact a2 q (by omega) h2 h3
      · dsimp only
        rw [if_neg (by omega)]; exact a3 q (by omega) h2
    · refine ⟨σ, ?_, hs, A, a1, fun q h1 h2 h3 => ?_, fun q h1 h2 => a3 q (by omega) h2⟩
      · rw [e_X11_goings_163, if_neg (nI_nlt (by omega) (by omega)), nI_and, if_neg (fun e => c ((nI_eq (Nat.lt_of_le_of_lt Nat.and_le_right (show S < 2 ^ 31 by omega)) (by omega)).mp e)), nI_1]
      · by_cases e : q = i + 1
        · rw [e] at h3; exact absurd h3 c
        · exact a2 q (by omega) h2 h3) σ ⟨h0, base w C, h1, fun q h1 h2 h3 => by
      have : q = 0 := by omega
      subst this
      refine ⟨fun k e => ?_, fun j _ => ⟨0, rfl, Nat.zero_le _⟩⟩
      have e : some 0 = some k := e
      cases e
      exact ⟨fun _ => 0, fun p hp hq => (by rw [Nat.zero_testBit] at hq; cases hq), fun g hg => by omega⟩, fun q _ _ => rfl⟩
  refine ⟨σ', A S, hs', hd S (Nat.le_refl _) hS (Nat.and_self _), ?_⟩
  rw [← ha S hS]
  exact e
theorem bsum_ge {B : Nat → Nat} {n k : Nat} (h : k < 2 ^ n) : ∀ d, bsum B (n + d) k = bsum B n k := by
  intro d
  induction d with
  | zero => rfl
  | succ d ih =>
    rw [show n + (d + 1) = (n + d) + 1 by omega, bsum_lo (Nat.lt_of_lt_of_le h (Nat.pow_le_pow_right (by omega) (by omega))), ih]
theorem g81_M (hs : RSt ld x) (hb : RBk bk m) (hl : RLa ld bk L x m) (hd : RDy L x m) (K : Int32 → Int32 → Int32 → St → Option (Int32 × St)) {q C : Nat} (hq : q < 2 ^ L.np) (hC : C ≤ 9999) (S : Int32) : f_X11_goings_81 K FU S (nI C) (nI q) 0 0 m = K S (nI C) (nI (q + 1)) (sI m 44 q (enc (base (loadN x ld L) C q))) := by
  have h8 := hl.1.1
  have h2 : 2 ^ L.np ≤ 2 ^ 8 := Nat.pow_le_pow_right (by omega) h8
  have hbl : ∀ j, bsum (loadN x ld L) j q ≤ j * 25744554 ∨ 8 < j := by
    intro j
    by_cases c : 8 < j
    · exact Or.inr c
    · refine Or.inl (Nat.le_trans (bsum_le _ _ _) (btot_le (N := 8) (fun i hi => (load_N hl hd hi).2) j (by omega)))
  obtain ⟨a, ea, e⟩ := loop_exF (fun n (a : Int32) i => f_X11_goings_81 K n S (nI C) (nI q) a (nI i) m) (fun a => K S (nI C) (nI (q + 1)) (sI m 44 q (if q = 0 then 0 else if nI C < a then -1 else 1))) L.np (by omega) (fun i a => a = nI (bsum (loadN x ld L) i q)) (fun n a ha => by
    rw [e_X11_goings_81, hb.2, (bk_ix hb.1).1, if_pos rfl, (bk_ix hb.1).2, hl.1.2.2, if_pos (nI_le (Nat.le_refl _) (by omega)), inb_nI (show q < 256 by omega) (by omega), ix_nI (by omega), nI_1]
    simp only [if_true, ltt]
    by_cases c : q = 0
    · rw [if_pos (by rw [c]; rfl), if_pos c]
    · rw [if_neg (nI_ne0 (by omega) (by omega)), if_neg c]
      by_cases c2 : nI C < a
      · rw [if_pos c2, if_pos c2]
      · rw [if_neg c2, if_neg c2]) (fun n a i hi ha => by
    refine ⟨nI (bsum (loadN x ld L) (i + 1) q), ?_, rfl⟩
    rw [e_X11_goings_81, hb.2, (bk_ix hb.1).1, if_pos rfl, (bk_ix hb.1).2, hl.1.2.2, if_neg (nI_ge hi (by omega)), bit_I (by omega) (by omega), ha, nI_1, bsum]
    dsimp only [ltt]
    cases q.testBit i
    · rw [if_neg (by decide), if_neg (by decide), show (0 : Int32) = nI 0 from rfl, nI_add]
    · rw [if_pos (by decide), if_pos rfl, load_M hb hl hd (by omega), (load_N hl hd (p := i) (by omega)).1]
      dsimp only [Option.bind]
      rw [nI_add]) 0 rfl
  refine Eq.trans e ?_
  congr 2
  rw [base]
  by_cases c : q = 0
  · rw [if_pos c, if_pos c]; rfl
  · rw [if_neg c, if_neg c, ea]
    have hx : psum (loadN x ld L) 8 q.testBit = bsum (loadN x ld L) L.np q := by
      rw [← bsum_p, show 8 = L.np + (8 - L.np) by omega, bsum_ge hq]
    rw [hx]
    have hbn := hbl L.np
    have hmul : L.np * 25744554 ≤ 8 * 25744554 := Nat.mul_le_mul_right _ h8
    by_cases c2 : bsum (loadN x ld L) L.np q ≤ C
    · rw [if_neg (nI_nlt c2 (by omega)), if_pos c2]; rfl
    · rw [if_pos (nI_lt (by omega) (by omega)), if_neg c2]; rfl
theorem go_M (hs : RSt ld x) (hb : RBk bk m) (hl : RLa ld bk L x m) (hd : RDy L x m) {S C : Nat} (hS : S < 2 ^ L.np) (hC : C ≤ 9999) : ∃ σ' o, ScM m σ' ∧ GRo (loadN x ld L) 8 C S.testBit o ∧ f_X11_goings_59 FU (nI S) (nI C) 0 m = some (enc o, σ') := by
  have h8 := hl.1.1
  have h2 : 2 ^ L.np ≤ 2 ^ 8 := Nat.pow_le_pow_right (by omega) h8
  obtain ⟨σ1, ⟨h1, h3⟩, e⟩ := loop_exF (fun n (σ : St) i => f_X11_goings_59 n (nI S) (nI C) (nI i) σ) (fun σ => f_X11_goings_163 FU (nI S) 1 σ) (2 ^ L.np) (by omega) (fun i σ => ScM m σ ∧ ∀ t, t < i → gI σ 44 t = enc (base (loadN x ld L) C t)) (fun n σ h => by
    obtain ⟨s', b', l', d'⟩ := scrP (ScX.rf x) h.1 hs hb hl hd
    rw [e_X11_goings_59, b'.2, (bk_ix b'.1).1, if_pos rfl, (bk_ix b'.1).2, l'.1.2.2, p2_I (by omega), if_pos (nI_le (Nat.le_refl _) (by omega))]) (fun n σ i hi h => by
    obtain ⟨s', b', l', d'⟩ := scrP (ScX.rf x) h.1 hs hb hl hd
    refine ⟨sI σ 44 i (enc (base (loadN x ld L) C i)), ?_, h.1.tr (ScM.sI rfl), fun t ht => ?_⟩
    · rw [e_X11_goings_59, b'.2, (bk_ix b'.1).1, if_pos rfl, (bk_ix b'.1).2, l'.1.2.2, p2_I (by omega), if_neg (nI_ge hi (by omega))]
      exact g81_M s' b' l' d' _ hi hC (nI S)
    · rw [gI_sI]
      by_cases c : t = i
      · rw [if_pos ⟨rfl, c⟩, c]
      · rw [if_neg (fun e => c e.2)]; exact h.2 t (by omega)) m ⟨ScM.rf m, fun t ht => by omega⟩
  obtain ⟨σ', o, g1, g2, g3⟩ := g163_M (m := m) (by omega) hS h1 h3
  exact ⟨σ', o, g1, g2, Eq.trans e g3⟩
theorem step30 (LW : Nat → Nat → LD → St → St → Prop) (hc : CongrL LW) : Step_30 (RelOf (RelB LW)) := by
  intro a b x m h
  obtain ⟨hA, ld, bk, L, s1, hb, hla, hw, hd⟩ := id h
  have h8 := hla.1.1
  have h4 := hla.2.2.2.2.1.1
  have h2 : 2 ^ L.np ≤ 2 ^ 8 := Nat.pow_le_pow_right (by omega) h8
  have X := e_X10_goings a b x
  have M := e_X11_goings a b m
  dsimp only [ltt] at X M
  rw [s1.1, if_pos (landB_of s1.2.1), holds_X hla.2.2.2.2.1.2.1 (by omega)] at X
  rw [hb.2, (bk_ix hb.1).1, if_pos rfl, (bk_ix hb.1).2, hla.2.2.2.2.1.2.2, is_M (by omega)] at M
  dsimp only [Option.bind] at X M
  cases hp : inb a L.nb
  · rw [hp, if_pos (by decide)] at X M
    exact ⟨_, _, _, X, M, h⟩
  rw [hp, if_neg (by decide)] at X M
  obtain ⟨i, hi, rfl⟩ := inb_of hp (by omega)
  rw [hb.2, (bk_ix hb.1).1, if_pos rfl, (bk_ix hb.1).2, hla.1.2.2, p2_I (by omega), is_M (by omega)] at M
  dsimp only at M
  rw [s1.1, if_pos (landB_of s1.2.1), hla.1.2.1, p2_I (by omega), if_pos (landB_of s1.2.1)] at X
  by_cases c0 : b < 0
  · rw [if_pos c0] at X
    rw [inb_neg c0, if_pos (by decide)] at M
    exact ⟨_, _, _, X, M, h⟩
  rw [if_neg c0] at X
  obtain ⟨S, hS, rfl⟩ := nI_of c0
  by_cases c1 : S < 2 ^ L.np
  · rw [if_pos (nI_lt c1 (by omega))] at X
    rw [inb_nI c1 (by omega), if_neg (by decide), hb.2, show (4 : Int32) = nI 4 from rfl, pk_mul, nI_add, if_pos (inb_nI (by have := hb.1; omega) (by omega)), ix_nI (by have := hb.1; omega)] at M
    obtain ⟨C, hC, g1, g2⟩ := (hla.2.2.2.2.2.2.2.2.1 i hi).2
    have gx : f_X8_get (ld + 13) (nI i) 0 x = some (gI x (ld + 15) i, x) := by
      have := getR (r := ld + 13) (n := L.nb) (w := 1) (σ := x) hla.2.2.2.2.1.2.1 (rl1 s1).2.2.2.2 (by rw [show ld + 13 + 2 = ld + 13 + 2 from rfl, (lnL s1).2.2.2.2.2.2.2]; omega) (by rw [(lnL s1).2.2.2.2.2.2.2]; omega) (by omega) (by omega) hi (j := 0) (by omega)
      rw [Nat.one_mul] at this
      exact this
    rw [gx, g1] at X
    dsimp only at X
    rw [g2] at M
    obtain ⟨σx, o, x1, x2, x3⟩ := few_X s1 hb hla hd (S := S) (C := C) (by omega) hC
    obtain ⟨σm, o', m1, m2, m3⟩ := go_M s1 hb hla hd (S := S) (C := C) c1 hC
    rw [x3] at X
    rw [m3, ← x2.un m2] at M
    dsimp only at X
    exact ⟨_, _, _, X, M, scr hc x1 m1 h⟩
  · rw [if_neg (nI_nlt (by omega) hS)] at X
    rw [inb_big hS (by omega), if_pos (by decide)] at M
    exact ⟨_, _, _, X, M, h⟩
end GoingsM
