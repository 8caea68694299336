/-! ===== a place of a fault is put down with the fault alone ===== -/
def JX (x : St) : Prop := gI x 3 8 = 0 → gI x 3 9 = -1
def JM (m : St) : Prop := gI m 0 8 = 0 → gI m 0 9 = -1
def OKs (J : St → Prop) {α : Type} (o : Option (α × St)) : Prop := ∀ a σ, o = some (a, σ) → J σ
section Ok
variable {J : St → Prop} {α β : Type} {σ : St}
theorem ok_n : OKs J (none : Option (α × St)) := fun _ _ h => by cases h
theorem ok_s {a : α} (h : J σ) : OKs J (some (a, σ)) := fun _ _ e => by cases e; exact h
theorem ok_i {c : Prop} [Decidable c] {a b : Option (α × St)} (h : OKs J a) (g : OKs J b) : OKs J (if c then a else b) := by
  split
  · exact h
  · exact g
theorem ok_b {o : Option (α × St)} {f : α × St → Option (β × St)} (h : OKs J o) (g : ∀ a σ, J σ → OKs J (f (a, σ))) : OKs J (o.bind f) := by
  intro b τ e
  cases o with
  | none => cases e
  | some q => exact g q.1 q.2 (h q.1 q.2 rfl) b τ e
end Ok
section Jx
variable {σ : St}
theorem jx_s {k : Nat} {v : Int32} (hk : k ≠ 8 ∧ k ≠ 9) (h : JX σ) : JX (sI σ 3 k v) := by
  intro e
  rw [ge_n (by omega)] at e ⊢
  exact h e
theorem jx_f (p : Int32) (h : JX σ) : OKs JX (f_X6_fail 1 p σ) := by
  rw [e_X6_fail]
  dsimp only [ltt]
  refine ok_i (ok_s fun e => ?_) (ok_s h)
  rw [ge_n (by decide), ge_s] at e
  cases e
theorem jx_k (a : Int32) (h : JX σ) : OKs JX (f_X6_kindOf a σ) := by
  rw [e_X6_kindOf]
  repeat' (first | exact ok_s h | refine ok_i ?_ ?_)
theorem jx_104 : ∀ (N : Nat) (a : Int32) (σ : St), JX σ → OKs JX (f_X6_readWord_104 N a σ) := by
  intro N
  induction N with
  | zero => intro a σ h; exact ok_n
  | succ N ih =>
    intro a σ h
    rw [e_X6_readWord_104]
    dsimp only [ltt]
    exact ok_i (ok_s h) (ok_i (ok_i (ih _ _ (jx_s (by decide) h)) (ih _ _ h)) ok_n)
theorem jx_W : ∀ (N : Nat) (σ : St), JX σ → OKs JX (f_X6_readWord_5 N σ) := by
  intro N
  induction N with
  | zero => intro σ h; exact ok_n
  | succ N ih =>
    intro σ h
    rw [e_X6_readWord_5]
    dsimp only [ltt]
    repeat' (first | exact ok_n | exact jx_104 _ _ _ h | exact ih _ (jx_s (by decide) (jx_s (by decide) h)) | exact ok_s h | refine ok_i ?_ ?_)
theorem jx_N : ∀ (N : Nat) (σ : St), JX σ → OKs JX (f_X6_readNumber_5 N σ) := by
  intro N
  induction N with
  | zero => intro σ h; exact ok_n
  | succ N ih =>
    intro σ h
    rw [e_X6_readNumber_5]
    dsimp only [ltt]
    repeat' (first | exact ok_n | exact ih _ (jx_s (by decide) (jx_s (by decide) h)) | exact ok_s h | refine ok_i ?_ ?_)
theorem jx_rw (h : JX σ) : OKs JX (f_X6_readWord σ) := by
  rw [e_X6_readWord]
  dsimp only [ltt]
  exact jx_W _ _ (jx_s (by decide) h)
theorem jx_rn (h : JX σ) : OKs JX (f_X6_readNumber σ) := by
  rw [e_X6_readNumber]
  dsimp only [ltt]
  exact jx_N _ _ (jx_s (by decide) h)
theorem jx_259 (h : JX σ) : OKs JX (f_X6_look_259 σ) := by
  rw [e_X6_look_259]
  exact ok_i (ok_s h) (ok_s h)
theorem jx_245 (a : Int32) (h : JX σ) : OKs JX (f_X6_look_245 a σ) := by
  rw [e_X6_look_245]
  exact ok_i (ok_b (jx_f _ h) fun _ _ h => jx_259 h) (jx_259 h)
theorem jx_162 (a : Int32) (h : JX σ) : OKs JX (f_X6_look_162 a σ) := by
  rw [e_X6_look_162]
  dsimp only [ltt]
  repeat' (first | exact ok_n | exact jx_245 _ h | exact jx_245 _ (jx_s (by decide) h) | (refine ok_b (jx_rw h) fun _ _ h => ?_) | (refine ok_b (jx_rn h) fun _ _ h => ?_) | refine ok_i ?_ ?_)
theorem jx_127 (a : Int32) (h : JX σ) : OKs JX (f_X6_look_127 a σ) := by
  have h' : JX (sI σ 3 5 a) := jx_s (by decide) h
  rw [e_X6_look_127]
  dsimp only [ltt]
  generalize sI σ 3 5 a = τ at h'
  repeat' (first | exact ok_n | exact jx_162 _ h' | (refine ok_b (jx_k _ h') fun _ _ h' => ?_) | refine ok_i ?_ ?_)
theorem jx_89 (h : JX σ) : OKs JX (f_X6_look_89 σ) := by
  have h' : JX (sI σ 3 4 (gI σ 3 3)) := jx_s (by decide) h
  rw [e_X6_look_89]
  dsimp only [ltt]
  generalize sI σ 3 4 (gI σ 3 3) = τ at h'
  repeat' (first | exact ok_n | exact jx_127 _ h' | (refine ok_b (jx_k _ h') fun _ _ h' => ?_) | refine ok_i ?_ ?_)
theorem jx_37 : ∀ (N : Nat) (σ : St), JX σ → OKs JX (f_X6_look_37 N σ) := by
  intro N
  induction N with
  | zero => intro σ h; exact ok_n
  | succ N ih =>
    intro σ h
    rw [e_X6_look_37]
    dsimp only [ltt]
    repeat' (first | exact ok_n | exact jx_89 h | exact ih _ (jx_s (by decide) h) | refine ok_i ?_ ?_)
theorem lookJ {x x1 : St} {r : Int32} (h : JX x) (e : f_X6_look x = some (r, x1)) : JX x1 := by
  have : OKs JX (f_X6_look x) := by
    rw [e_X6_look]
    dsimp only [ltt]
    repeat' (first | exact ok_s h | exact jx_37 _ _ (jx_s (by decide) h) | refine ok_i ?_ ?_)
  exact this _ _ e
end Jx
section Jm
variable {σ : St}
theorem jm_s {k : Nat} {v : Int32} (hk : k ≠ 8 ∧ k ≠ 9) (h : JM σ) : JM (sI σ 0 k v) := by
  intro e
  rw [ge_n (by omega)] at e ⊢
  exact h e
theorem jm_t {k : Nat} {v : Int64} (h : JM σ) : JM (sL σ 0 k v) := h
theorem jm_f (p : Int32) (h : JM σ) : OKs JM (f_X11_blame 1 p σ) := by
  rw [e_X11_blame]
  dsimp only [ltt]
  refine ok_i (ok_s fun e => ?_) (ok_s h)
  rw [ge_n (by decide), ge_s] at e
  cases e
theorem jm_l (a : Int32) (h : JM σ) : OKs JM (f_X11_isLetter a σ) := by
  rw [e_X11_isLetter]
  repeat' (first | exact ok_s h | refine ok_i ?_ ?_)
theorem jm_d (a : Int32) (h : JM σ) : OKs JM (f_X11_isDigit a σ) := by
  rw [e_X11_isDigit]
  repeat' (first | exact ok_s h | refine ok_i ?_ ?_)
theorem jm_252 {k : Int32 → Int32 → Int32 → Int32 → Int32 → St → Option (Unit × St)} (hk : ∀ a b c d e σ, JM σ → OKs JM (k a b c d e σ)) (a b c d e : Int32) (h : JM σ) : OKs JM (f_X11_ahead_252 k a b c d e σ) := by
  rw [e_X11_ahead_252]
  dsimp only [ltt]
  repeat' (first | exact ok_n | exact hk _ _ _ _ _ _ h | exact hk _ _ _ _ _ _ (jm_s (by decide) h) | exact hk _ _ _ _ _ _ (jm_t h) | refine ok_i ?_ ?_)
theorem jm_200 : ∀ (N : Nat) (a b c d e : Int32) (σ : St), JM σ → OKs JM (f_X11_ahead_200 N a b c d e σ) := by
  intro N
  induction N with
  | zero => intro a b c d e σ h; exact ok_n
  | succ N ih =>
    intro a b c d e σ h
    rw [e_X11_ahead_200]
    dsimp only [ltt]
    repeat' (first | exact ok_n | exact ok_s (jm_s (by decide) h) | exact jm_252 ih _ _ _ _ _ h | (refine ok_b (jm_l _ h) fun _ _ h => ?_) | (refine ok_b (jm_d _ h) fun _ _ h => ?_) | (refine ok_b (jm_f _ h) fun _ _ h => ?_) | refine ok_i ?_ ?_)
theorem jm_131 (a b c : Int32) (h : JM σ) : OKs JM (f_X11_ahead_131 a b c σ) := by
  have h' : JM (sI (sI (sL (sI σ 0 6 (0 : Int32)) 0 7 (0 : Int64)) 0 3 (3 : Int32)) 0 5 (a + (1 : Int32))) := jm_s (by decide) (jm_s (by decide) (jm_t (jm_s (by decide) h)))
  rw [e_X11_ahead_131]
  dsimp only [ltt]
  generalize sI (sI (sL (sI σ 0 6 (0 : Int32)) 0 7 (0 : Int64)) 0 3 (3 : Int32)) 0 5 (a + (1 : Int32)) = τ at h'
  repeat' (first | exact ok_n | exact ok_s (jm_s (by decide) h') | exact jm_200 _ _ _ _ _ _ _ (jm_s (by decide) h') | refine ok_i ?_ ?_)
theorem jm_41 (a : Int32) (h : JM σ) : OKs JM (f_X11_ahead_41 a σ) := by
  have h' : JM (sI (sI (sI σ 0 4 a) 0 5 a) 0 3 (0 : Int32)) := jm_s (by decide) (jm_s (by decide) (jm_s (by decide) h))
  rw [e_X11_ahead_41]
  dsimp only [ltt]
  generalize sI (sI (sI σ 0 4 a) 0 5 a) 0 3 (0 : Int32) = τ at h'
  repeat' (first | exact ok_n | exact ok_s h' | exact jm_131 _ _ _ h' | (refine ok_b (jm_l _ h') fun _ _ h' => ?_) | (refine ok_b (jm_d _ h') fun _ _ h' => ?_) | (refine ok_b (jm_f _ h') fun _ _ h' => ?_) | refine ok_i ?_ ?_)
theorem jm_5 : ∀ (N : Nat) (a : Int32) (σ : St), JM σ → OKs JM (f_X11_ahead_5 N a σ) := by
  intro N
  induction N with
  | zero => intro a σ h; exact ok_n
  | succ N ih =>
    intro a σ h
    rw [e_X11_ahead_5]
    repeat' (first | exact ok_n | exact jm_41 _ h | exact ih _ _ h | refine ok_i ?_ ?_)
theorem aheadJ {m m1 : St} (h : JM m) (e : f_X11_ahead m = some ((), m1)) : JM m1 := by
  have : OKs JM (f_X11_ahead m) := by
    rw [e_X11_ahead]
    exact jm_5 _ _ _ h
  exact this _ _ e
end Jm
