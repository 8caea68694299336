/-! ===== the next word, in both ===== -/
section Lk
variable {t : Nat → Nat} {n : Nat}
def Qp (t : Nat → Nat) (n p : Nat) : Prop := p = 0 ∨ (p < n → ¬ (let1 (t (p - 1)) = true ∧ let1 (t p) = true) ∧ ¬ (dig1 (t (p - 1)) = true ∧ dig1 (t p) = true))
def Lx (t : Nat → Nat) (n p c a e : Nat) (l : List Nat) (v : Nat) : Prop := Run bl1 t n p a ∧ ((c = 302 ∧ a = n ∧ e = n ∧ l = [] ∧ v = 0) ∨ (a < n ∧ ((c = t a ∧ let1 (t a) = false ∧ dig1 (t a) = false ∧ e = a + 1 ∧ l = [] ∧ v = 0) ∨ (Run dig1 t n a e ∧ a < e ∧ e - a ≤ 4 ∧ glu t a = false ∧ c = 301 ∧ v = nuN t a (e - a) ∧ l = []) ∨ (Run let1 t n a e ∧ a < e ∧ e - a ≤ 6 ∧ glu t a = false ∧ l = nmL t a (e - a) ∧ c = own l ∧ v = 0))))
def LxF (t : Nat → Nat) (n p q : Nat) : Prop := ∃ a, Run bl1 t n p a ∧ a < n ∧ ((let1 (t a) = true ∧ 0 < a ∧ dig1 (t (a - 1)) = true ∧ q = a) ∨ (dig1 (t a) = true ∧ 0 < a ∧ let1 (t (a - 1)) = true ∧ q = a) ∨ (∃ w, Run let1 t n a w ∧ glu t a = false ∧ a + 6 < w ∧ q = a + 6) ∨ (∃ w, Run dig1 t n a w ∧ glu t a = false ∧ a + 4 < w ∧ q = a + 4))
theorem run_lt {P : Nat → Bool} {a w : Nat} (h : Run P t n a w) (ha : a < n) (hp : P (t a) = true) : a < w := by
  obtain ⟨h1, h2, h3, h4⟩ := h
  by_cases c : w = a
  · subst c; have := h4 ha; rw [hp] at this; cases this
  · omega
/-- what touches a word from before, there: the class of bytes that broke it off -/
theorem prev_ok {p a : Nat} (hQ : Qp t n p) (hr : Run bl1 t n p a) (ha : a < n) : (let1 (t a) = true → 0 < a → let1 (t (a - 1)) = false) ∧ (dig1 (t a) = true → 0 < a → dig1 (t (a - 1)) = false) := by
  obtain ⟨r1, r2, r3, r4⟩ := hr
  by_cases c : p < a
  · have q := r3 (a - 1) (by omega) (by omega)
    have e : t (a - 1) = 32 ∨ t (a - 1) = 10 := by simpa only [bl1, Bool.or_eq_true, decide_eq_true_eq] using q
    exact ⟨fun _ _ => by rcases e with e | e <;> rw [e] <;> rfl, fun _ _ => by rcases e with e | e <;> rw [e] <;> rfl⟩
  · obtain rfl : a = p := by omega
    refine ⟨fun h1 h2 => ?_, fun h1 h2 => ?_⟩
    · rcases hQ with h | h
      · omega
      · exact (b_or _).resolve_left (fun e => (h ha).1 ⟨e, h1⟩)
    · rcases hQ with h | h
      · omega
      · exact (b_or _).resolve_left (fun e => (h ha).2 ⟨e, h1⟩)
theorem lex_ex {p : Nat} (hQ : Qp t n p) (hp : p ≤ n) : (∃ q, LxF t n p q) ∨ ∃ c a e l v, Lx t n p c a e l v := by
  obtain ⟨a, hr⟩ := run_ex bl1 t n (n - p) p (by omega)
  have ha := hr.2.1
  by_cases c : a = n
  · subst c; exact .inr ⟨302, a, a, [], 0, hr, .inl ⟨rfl, rfl, rfl, rfl, rfl⟩⟩
  have ha' : a < n := by omega
  have hpv := prev_ok hQ hr ha'
  rcases b_or (let1 (t a)) with el | el
  · rcases b_or (glu t a) with hq | hq
    · obtain ⟨h0, hd⟩ := glu_0 hq
      have hd' : dig1 (t (a - 1)) = true := hd.resolve_left (fun e => by rw [hpv.1 el h0] at e; cases e)
      exact .inl ⟨a, a, hr, ha', .inl ⟨el, h0, hd', rfl⟩⟩
    · obtain ⟨w, hw⟩ := run_ex let1 t n (n - a) a (by omega)
      have hlt := run_lt hw ha' el
      by_cases h6 : w - a ≤ 6
      · exact .inr ⟨own (nmL t a (w - a)), a, w, nmL t a (w - a), 0, hr, .inr ⟨ha', .inr (.inr ⟨hw, hlt, h6, hq, rfl, rfl, rfl⟩)⟩⟩
      · exact .inl ⟨a + 6, a, hr, ha', .inr (.inr (.inl ⟨w, hw, hq, by omega, rfl⟩))⟩
  rcases b_or (dig1 (t a)) with ed | ed
  · rcases b_or (glu t a) with hq | hq
    · obtain ⟨h0, hd⟩ := glu_0 hq
      have hd' : let1 (t (a - 1)) = true := hd.resolve_right (fun e => by rw [hpv.2 ed h0] at e; cases e)
      exact .inl ⟨a, a, hr, ha', .inr (.inl ⟨ed, h0, hd', rfl⟩)⟩
    · obtain ⟨w, hw⟩ := run_ex dig1 t n (n - a) a (by omega)
      have hlt := run_lt hw ha' ed
      by_cases h6 : w - a ≤ 4
      · exact .inr ⟨301, a, w, [], nuN t a (w - a), hr, .inr ⟨ha', .inr (.inl ⟨hw, hlt, h6, hq, rfl, rfl, rfl⟩)⟩⟩
      · exact .inl ⟨a + 4, a, hr, ha', .inr (.inr (.inr ⟨w, hw, hq, by omega, rfl⟩))⟩
  exact .inr ⟨t a, a, a + 1, [], 0, hr, .inr ⟨ha', .inl ⟨rfl, el, ed, rfl, rfl, rfl⟩⟩⟩
/-- the reader has not looked yet -/
def XU (n p : Nat) (x : St) : Prop := gI x 3 2 = nI n ∧ gI x 3 3 = nI p ∧ gI x 3 7 = 0 ∧ gI x 3 8 = 0
theorem look_ok {x : St} (ht : TpX t x) (hb : ∀ i, t i < 256) (hn : n ≤ 1600) {p c a e v : Nat} {l : List Nat} (hu : XU n p x) (h : Lx t n p c a e l v) : ∃ x1, f_X6_look x = some (nI c, x1) ∧ TX x x1 ∧ gI x1 5 2 = gI x 5 2 ∧ XK n c a e l v x1 := by
  obtain ⟨u2, u3, u7, u8⟩ := hu
  obtain ⟨hr, ⟨rfl, rfl, rfl, rfl, rfl⟩ | ⟨ha, ⟨rfl, hl, hd, rfl, rfl, rfl⟩ | ⟨hw, h0, h4, hq, rfl, rfl, rfl⟩ | ⟨hw, h0, h6, hq, rfl, rfl, rfl⟩⟩⟩ := h
  · exact look_end ht hb hn u2 u3 u7 u8 hr
  · exact look_sg ht hb hn u2 u3 u7 u8 hr ha hl hd
  · exact lookN_k ht hb hn u2 u3 u7 u8 hr hw h0 hq h4
  · exact lookW_k ht hb hn u2 u3 u7 u8 hr hw h0 hq h6
theorem look_br {x : St} (ht : TpX t x) (hb : ∀ i, t i < 256) (hn : n ≤ 1600) {p q : Nat} (hu : XU n p x) (h : LxF t n p q) : ∃ x1, f_X6_look x = some (303, x1) ∧ TX x x1 ∧ gI x1 5 2 = gI x 5 2 ∧ XF q x1 := by
  obtain ⟨u2, u3, u7, u8⟩ := hu
  obtain ⟨a, hr, ha, ⟨h1, h2, h3, rfl⟩ | ⟨h1, h2, h3, rfl⟩ | ⟨w, hw, hq, h6, rfl⟩ | ⟨w, hw, hq, h6, rfl⟩⟩ := h
  · exact lookW_p ht hb hn u2 u3 u7 u8 hr ha h1 h2 h3
  · exact lookN_p ht hb hn u2 u3 u7 u8 hr ha h1 h2 h3
  · exact lookW_f ht hb hn u2 u3 u7 u8 hr hw hq h6
  · exact lookN_f ht hb hn u2 u3 u7 u8 hr hw hq h6
abbrev uW (z : St) (a k : Nat) : St := sI (sI (sI (sL (sI z 0 6 0) 0 7 0) 0 3 3) 0 5 (nI (a + 1))) 0 3 (nI k)
theorem uW_t (z : St) (a k : Nat) : TM z (uW z a k) := ((((TM.s (by decide)).tr TM.l).tr (TM.s (by decide))).tr (TM.s (by decide))).tr (TM.s (by decide))
theorem uW_3 (z : St) (a k : Nat) : gI (uW z a k) 0 2 = gI z 0 2 ∧ gI (uW z a k) 0 3 = nI k ∧ gI (uW z a k) 0 4 = gI z 0 4 ∧ gI (uW z a k) 0 6 = 0 ∧ gI (uW z a k) 0 8 = gI z 0 8 ∧ gI (uW z a k) 0 9 = gI z 0 9 ∧ gL (uW z a k) 0 7 = 0 := by
  have e : ∀ j, gI (uW z a k) 0 j = gI (sI (sI (sI (sI z 0 6 0) 0 3 3) 0 5 (nI (a + 1))) 0 3 (nI k)) 0 j := fun j => rfl
  refine ⟨?_, ge_s, ?_, ?_, ?_, ?_, rfl⟩
  · rw [e, ge_n (by decide), ge_n (by decide), ge_n (by decide), ge_n (by decide)]
  · rw [e, ge_n (by decide), ge_n (by decide), ge_n (by decide), ge_n (by decide)]
  · rw [e, ge_n (by decide), ge_n (by decide), ge_n (by decide), ge_s]
  · rw [e, ge_n (by decide), ge_n (by decide), ge_n (by decide), ge_n (by decide)]
  · rw [e, ge_n (by decide), ge_n (by decide), ge_n (by decide), ge_n (by decide)]
theorem a131W (a : Nat) (z : St) : f_X11_ahead_131 (nI a) (bi true) (bi false) z = f_X11_ahead_200 FU (nI a) 1 0 6 0 (uW z a 1) := by
  rw [e_X11_ahead_131]
  dsimp only [ltt]
  rw [if_neg (show ¬ bi true = 0 by decide), if_neg (show ¬ bi true = 0 by decide), if_neg (show ¬ bi true = 0 by decide), nI_1]
  rfl
theorem a131N (a : Nat) (z : St) : f_X11_ahead_131 (nI a) (bi false) (bi true) z = f_X11_ahead_200 FU (nI a) 0 1 4 0 (uW z a 2) := by
  rw [e_X11_ahead_131]
  dsimp only [ltt]
  rw [if_pos (show bi false = 0 from rfl), if_neg (show ¬ bi true = 0 by decide), if_pos (show bi false = 0 from rfl), if_pos (show bi false = 0 from rfl), nI_1]
  rfl
end Lk
