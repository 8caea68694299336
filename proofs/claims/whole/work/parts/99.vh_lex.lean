/-! ===== the next word, in both: joined ===== -/
section Lk
variable {t : Nat → Nat} {n : Nat}
theorem own_r (l : List Nat) : own l = 300 ∨ (400 ≤ own l ∧ own l < 423) := by
  rcases own_cs l with ⟨i, hi, -, h⟩ | ⟨-, h⟩ <;> omega
theorem ahead_ok {m : St} (ht : TpM t m) (hb : ∀ i, t i < 256) (hn : n ≤ 1600) {p c a e v : Nat} {l : List Nat} (m2 : gI m 0 2 = nI n) (m5 : gI m 0 5 = nI p) (m8 : gI m 0 8 = 0) (hQ : Qp t n p) (h : Lx t n p c a e l v) : ∃ m1, f_X11_ahead m = some ((), m1) ∧ TM m m1 ∧ gI m1 0 8 = 0 ∧ MK n c a e l v m1 := by
  obtain ⟨hr, ⟨rfl, rfl, rfl, rfl, rfl⟩ | ⟨ha, ⟨rfl, hl, hd, rfl, rfl, rfl⟩ | ⟨hw, h0, h4, hq, rfl, rfl, rfl⟩ | ⟨hw, h0, h6, hq, rfl, rfl, rfl⟩⟩⟩ := h
  · exact ah_end ht hb hn m2 m5 m8 hr
  · exact ah_sg ht hb hn m2 m5 m8 hr ha hl hd
  · obtain ⟨z2, z3, z4, z5, z8, z9⟩ := zM_3 m a
    obtain ⟨u2, u3, u4, u6, u8, u9, u7⟩ := uW_3 (zM m a) a 2
    have hq := glu_l hq
    have hdg := hw.2.2.1 a (by omega) (by omega)
    have hlt : let1 (t a) = false := (b_or _).resolve_left (fun q => not_both _ ⟨q, hdg⟩)
    have hpv := (prev_ok hQ hr ha).2 hdg
    obtain ⟨σ, e1, e2, e3, e4, e5, e6⟩ := ahN (u := uW (zM m a) a 2) ((ht.c (zM_t m a)).c (uW_t _ _ _)) hb hn (u2.trans (z2.trans m2)) (.inl (u8.trans (z8.trans m8))) u6 hw
    refine ⟨sI σ 0 5 (nI e), ?_, (((zM_t m a).tr (uW_t _ _ _)).tr e2).tr (TM.s (by decide)), ?_, ?_, ?_, ?_, ge_s, fun _ => ?_, fun q => by omega, fun q => by omega⟩
    · rw [ah_at ht hb hn m2 m5 m8 hr ha, hlt, hdg, if_neg (by
        rcases hq with rfl | hq
        · simp
        · by_cases c : a = 0
          · simp [c]
          · rw [hq, hpv (by omega)]; simp), a131N, e1]
    · rw [ge_n (by decide)]; exact (e6.2 (u8.trans (z8.trans m8))).1 h4
    · rw [ge_n (by decide)]; exact (e2.1 0 2 (by omega)).trans (u2.trans (z2.trans m2))
    · rw [ge_n (by decide)]; exact e3.trans u3
    · rw [ge_n (by decide)]; exact e4.trans (u4.trans z4)
    · rw [ge_n (by decide), e5, show min (e - a) 4 = e - a by omega]
  · obtain ⟨z2, z3, z4, z5, z8, z9⟩ := zM_3 m a
    obtain ⟨u2, u3, u4, u6, u8, u9, u7⟩ := uW_3 (zM m a) a 1
    have hq := glu_d hq
    have hlt := hw.2.2.1 a (by omega) (by omega)
    have hdg : dig1 (t a) = false := (b_or _).resolve_left (fun q => not_both _ ⟨hlt, q⟩)
    have hpv := (prev_ok hQ hr ha).1 hlt
    have ho := own_r (nmL t a (e - a))
    obtain ⟨σ, e1, e2, e3, e4, e5, e6⟩ := ahW (u := uW (zM m a) a 1) ((ht.c (zM_t m a)).c (uW_t _ _ _)) hb hn (u2.trans (z2.trans m2)) (.inl (u8.trans (z8.trans m8))) u7 hw
    refine ⟨sI σ 0 5 (nI e), ?_, (((zM_t m a).tr (uW_t _ _ _)).tr e2).tr (TM.s (by decide)), ?_, ?_, ?_, ?_, ge_s, fun q => by omega, fun q => by omega, fun _ => ?_⟩
    · rw [ah_at ht hb hn m2 m5 m8 hr ha, hlt, hdg, if_neg (by
        rcases hq with rfl | hq
        · simp
        · by_cases c : a = 0
          · simp [c]
          · rw [hq, hpv (by omega)]; simp), a131W, e1]
    · rw [ge_n (by decide)]; exact (e6.2 (u8.trans (z8.trans m8))).1 h6
    · rw [ge_n (by decide)]; exact (e2.1 0 2 (by omega)).trans (u2.trans (z2.trans m2))
    · rw [ge_n (by decide), if_neg (by omega), if_neg (by omega), if_neg (by omega)]; exact e3.trans u3
    · rw [ge_n (by decide)]; exact e4.trans (u4.trans z4)
    · show gL σ 0 7 = _
      rw [e5, show min (e - a) 6 = e - a by omega]
theorem ahead_br {m : St} (ht : TpM t m) (hb : ∀ i, t i < 256) (hn : n ≤ 1600) {p q : Nat} (m2 : gI m 0 2 = nI n) (m5 : gI m 0 5 = nI p) (m8 : gI m 0 8 = 0) (hQ : Qp t n p) (h : LxF t n p q) : ∃ m1, f_X11_ahead m = some ((), m1) ∧ TM m m1 ∧ gI m1 0 8 = 1 ∧ gI m1 0 9 = nI q := by
  obtain ⟨a, hr, ha, h⟩ := h
  obtain ⟨z2, z3, z4, z5, z8, z9⟩ := zM_3 m a
  let z1 := sI (sI (zM m a) 0 8 1) 0 9 (nI a)
  have hz1 : TM (zM m a) z1 := (TM.s (by decide)).tr (TM.s (by decide))
  have z12 : gI z1 0 2 = nI n := (hz1.1 0 2 (by omega)).trans (z2.trans m2)
  have z18 : gI z1 0 8 = 1 := (ge_n (by decide)).trans ge_s
  have z19 : gI z1 0 9 = nI a := ge_s
  have tz : TpM t (zM m a) := ht.c (zM_t m a)
  rcases h with ⟨h1, h2, h3, rfl⟩ | ⟨h1, h2, h3, rfl⟩ | ⟨w, hw, hq, h6, rfl⟩ | ⟨w, hw, hq, h6, rfl⟩
  · have hdg : dig1 (t q) = false := (b_or _).resolve_left (fun e => not_both _ ⟨h1, e⟩)
    obtain ⟨w, hw⟩ := run_ex let1 t n (n - q) q (by omega)
    obtain ⟨u2, u3, u4, u6, u8, u9, u7⟩ := uW_3 z1 q 1
    obtain ⟨σ, e1, e2, e3, e4, e5, e6⟩ := ahW (u := uW z1 q 1) ((tz.c hz1).c (uW_t _ _ _)) hb hn (u2.trans z12) (.inr (u8.trans z18)) u7 hw
    refine ⟨sI σ 0 5 (nI w), ?_, ((((zM_t m q).tr hz1).tr (uW_t _ _ _)).tr e2).tr (TM.s (by decide)), ?_, ?_⟩
    · rw [ah_at ht hb hn m2 m5 m8 hr ha, h1, hdg, if_pos (by rw [h3]; simp [h2]), a131W, e1]
    · rw [ge_n (by decide)]; exact (e6.1 (u8.trans z18)).1
    · rw [ge_n (by decide)]; exact (e6.1 (u8.trans z18)).2.trans (u9.trans z19)
  · have hlt : let1 (t q) = false := (b_or _).resolve_left (fun e => not_both _ ⟨e, h1⟩)
    obtain ⟨w, hw⟩ := run_ex dig1 t n (n - q) q (by omega)
    obtain ⟨u2, u3, u4, u6, u8, u9, u7⟩ := uW_3 z1 q 2
    obtain ⟨σ, e1, e2, e3, e4, e5, e6⟩ := ahN (u := uW z1 q 2) ((tz.c hz1).c (uW_t _ _ _)) hb hn (u2.trans z12) (.inr (u8.trans z18)) u6 hw
    refine ⟨sI σ 0 5 (nI w), ?_, ((((zM_t m q).tr hz1).tr (uW_t _ _ _)).tr e2).tr (TM.s (by decide)), ?_, ?_⟩
    · rw [ah_at ht hb hn m2 m5 m8 hr ha, h1, hlt, if_pos (by rw [h3]; simp [h2]), a131N, e1]
    · rw [ge_n (by decide)]; exact (e6.1 (u8.trans z18)).1
    · rw [ge_n (by decide)]; exact (e6.1 (u8.trans z18)).2.trans (u9.trans z19)
  · have hq := glu_d hq
    have hlt := hw.2.2.1 a (by omega) (by omega)
    have hdg : dig1 (t a) = false := (b_or _).resolve_left (fun e => not_both _ ⟨hlt, e⟩)
    have hpv := (prev_ok hQ hr ha).1 hlt
    obtain ⟨u2, u3, u4, u6, u8, u9, u7⟩ := uW_3 (zM m a) a 1
    obtain ⟨σ, e1, e2, e3, e4, e5, e6⟩ := ahW (u := uW (zM m a) a 1) (tz.c (uW_t _ _ _)) hb hn (u2.trans (z2.trans m2)) (.inl (u8.trans (z8.trans m8))) u7 hw
    have g := (e6.2 (u8.trans (z8.trans m8))).2 (by omega)
    refine ⟨sI σ 0 5 (nI w), ?_, (((zM_t m a).tr (uW_t _ _ _)).tr e2).tr (TM.s (by decide)), ?_, ?_⟩
    · rw [ah_at ht hb hn m2 m5 m8 hr ha, hlt, hdg, if_neg (by
        rcases hq with rfl | hq
        · simp
        · by_cases c : a = 0
          · simp [c]
          · rw [hq, hpv (by omega)]; simp), a131W, e1]
    · rw [ge_n (by decide)]; exact g.1
    · rw [ge_n (by decide)]; exact g.2
  · have hq := glu_l hq
    have hdg := hw.2.2.1 a (by omega) (by omega)
    have hlt : let1 (t a) = false := (b_or _).resolve_left (fun e => not_both _ ⟨e, hdg⟩)
    have hpv := (prev_ok hQ hr ha).2 hdg
    obtain ⟨u2, u3, u4, u6, u8, u9, u7⟩ := uW_3 (zM m a) a 2
    obtain ⟨σ, e1, e2, e3, e4, e5, e6⟩ := ahN (u := uW (zM m a) a 2) (tz.c (uW_t _ _ _)) hb hn (u2.trans (z2.trans m2)) (.inl (u8.trans (z8.trans m8))) u6 hw
    have g := (e6.2 (u8.trans (z8.trans m8))).2 (by omega)
    refine ⟨sI σ 0 5 (nI w), ?_, (((zM_t m a).tr (uW_t _ _ _)).tr e2).tr (TM.s (by decide)), ?_, ?_⟩
    · rw [ah_at ht hb hn m2 m5 m8 hr ha, hlt, hdg, if_neg (by
        rcases hq with rfl | hq
        · simp
        · by_cases c : a = 0
          · simp [c]
          · rw [hq, hpv (by omega)]; simp), a131N, e1]
    · rw [ge_n (by decide)]; exact g.1
    · rw [ge_n (by decide)]; exact g.2
/-- behind a word stands no letter, behind a number no digit -/
theorem Lx.q {p c a e v : Nat} {l : List Nat} (h : Lx t n p c a e l v) : Qp t n e := by
  obtain ⟨hr, ⟨rfl, rfl, rfl, rfl, rfl⟩ | ⟨ha, ⟨rfl, hl, hd, rfl, rfl, rfl⟩ | ⟨hw, h0, h4, hq, rfl, rfl, rfl⟩ | ⟨hw, h0, h6, hq, rfl, rfl, rfl⟩⟩⟩ := h
  · exact .inr (fun q => by omega)
  · refine .inr (fun _ => ?_)
    rw [show a + 1 - 1 = a by omega, hl, hd]; simp
  · refine .inr (fun q => ?_)
    have h1 := hw.2.2.2 q
    have h2 := hw.2.2.1 (e - 1) (by omega) (by omega)
    have h3 : let1 (t (e - 1)) = false := (b_or _).resolve_left (fun z => not_both _ ⟨z, h2⟩)
    rw [h1, h3]; simp
  · refine .inr (fun q => ?_)
    have h1 := hw.2.2.2 q
    have h2 := hw.2.2.1 (e - 1) (by omega) (by omega)
    have h3 : dig1 (t (e - 1)) = false := (b_or _).resolve_left (fun z => not_both _ ⟨h2, z⟩)
    rw [h1, h3]; simp
theorem Lx.b {p c a e v : Nat} {l : List Nat} (h : Lx t n p c a e l v) : p ≤ a ∧ a ≤ e ∧ e ≤ n ∧ (c = 302 ∨ p < e) := by
  obtain ⟨hr, ⟨rfl, rfl, rfl, rfl, rfl⟩ | ⟨ha, ⟨rfl, hl, hd, rfl, rfl, rfl⟩ | ⟨hw, h0, h4, hq, rfl, rfl, rfl⟩ | ⟨hw, h0, h6, hq, rfl, rfl, rfl⟩⟩⟩ := h
  · have := hr.1; exact ⟨by omega, by omega, by omega, .inl rfl⟩
  · have := hr.1; exact ⟨by omega, by omega, by omega, .inr (by omega)⟩
  · have := hr.1; have := hw.2.1; exact ⟨by omega, by omega, by omega, .inr (by omega)⟩
  · have := hr.1; have := hw.2.1; exact ⟨by omega, by omega, by omega, .inr (by omega)⟩
theorem Lx.cd {p c a e v : Nat} {l : List Nat} (hb : ∀ i, t i < 256) (h : Lx t n p c a e l v) : c = 302 ∨ c < 256 ∨ (c = 301 ∧ v ≤ 9999) ∨ ((c = 300 ∨ (400 ≤ c ∧ c < 423)) ∧ c = own l ∧ 1 ≤ l.length ∧ l.length ≤ 6 ∧ (∀ d ∈ l, d < 26) ∧ e = a + l.length ∧ let1 (t a) = true ∧ let1 (t (e - 1)) = true) := by
  obtain ⟨hr, ⟨rfl, rfl, rfl, rfl, rfl⟩ | ⟨ha, ⟨rfl, hl, hd, rfl, rfl, rfl⟩ | ⟨hw, h0, h4, hq, rfl, rfl, rfl⟩ | ⟨hw, h0, h6, hq, rfl, rfl, rfl⟩⟩⟩ := h
  · exact .inl rfl
  · exact .inr (.inl (hb a))
  · refine .inr (.inr (.inl ⟨rfl, ?_⟩))
    have := nuN_lt (t := t) (a := a) (k := e - a) (fun i hi => hw.2.2.1 (a + i) (by omega) (by omega))
    have h10 : 10 ^ (e - a) ≤ 10 ^ 4 := Nat.pow_le_pow_right (by omega) h4
    omega
  · refine .inr (.inr (.inr ⟨own_r _, rfl, ?_, ?_, ?_, ?_, ?_, ?_⟩))
    · rw [nmL_len]; omega
    · rw [nmL_len]; omega
    · exact nmL_lt (fun i hi => hw.2.2.1 (a + i) (by omega) (by omega))
    · rw [nmL_len]; omega
    · exact hw.2.2.1 a (by omega) (by omega)
    · exact hw.2.2.1 (e - 1) (by omega) (by omega)
end Lk
