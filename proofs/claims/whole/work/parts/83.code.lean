/-! ===== the laws' code: its run in the reference ===== -/
def StkM (σ : St) : List Int → Prop
  | [] => True
  | z :: r => gL σ 33 r.length = vL z ∧ StkM σ r
theorem StkM.c {σ σ' : St} {st : List Int} (h : StkM σ st) (g : ∀ k, k < st.length → gL σ' 33 k = gL σ 33 k) : StkM σ' st := by
  induction st with
  | nil => trivial
  | cons z r ih => exact ⟨by rw [g _ (by rw [List.length_cons]; omega)]; exact h.1, ih h.2 (fun k hk => g k (by rw [List.length_cons]; omega))⟩
def SM (m : St) (F : Nat → Int) (st : List Int) (σ : St) : Prop := ScM m σ ∧ (∀ j, j < 5 → gI σ 34 (1 + j) = vI (F j)) ∧ StkM σ st
theorem SM.set {m : St} {F : Nat → Int} {st : List Int} {σ : St} (h : SM m F st σ) (z : Int) : SM m F (z :: st) (sL σ 33 st.length (vL z)) :=
  ⟨h.1.tr (ScM.sL (Or.inl rfl)), h.2.1, by rw [gL_sL, if_pos ⟨rfl, rfl⟩], h.2.2.c (fun k hk => by rw [gL_sL, if_neg (by omega)])⟩
theorem mo_gt : ∀ k, k < 12 → (9 : Int32) < mo k ∧ ¬ mo k = 22 := by decide +kernel
theorem notsM {m : St} {F : Nat → Int} {bk : Nat} (hb : RBk bk m) : ∀ (k : Nat) (a : Int) (st : List Int) (σ : St) (i c : Nat), CodeM m i (List.replicate k (22, 0)) → i + k ≤ 1600 * bk + c → c ≤ 1600 → st.length ≤ 64 → Tr a → SM m F (a :: st) σ → ∃ σ', SM m F ((if k % 2 = 1 then 1 - a else a) :: st) σ' ∧ ∀ n, f_X11_works_14 (n + k) (nI c) (nI (st.length + 1)) (nI i) σ = f_X11_works_14 n (nI c) (nI (st.length + 1)) (nI (i + k)) σ' := by
  intro k
  induction k with
  | zero => intro a st σ i c h1 h2 h3 h4 ha hσ; exact ⟨σ, by rw [if_neg (by decide)]; exact hσ, fun n => rfl⟩
  | succ k ih =>
    intro a st σ i c h1 h2 h3 h4 ha hσ
    have hbk := hb.1
    have h0 := h1 0 (by rw [List.length_replicate]; omega)
    rw [List.getElem_replicate, Nat.add_zero] at h0
    have hg : gI σ 24 i = 22 := by rw [hσ.1.1 24 i rfl]; exact h0.1
    have hbσ : gI σ 0 12 = nI bk := by rw [hσ.1.1 0 12 rfl]; exact hb.2
    have ha' : Tr (1 - a) := by rcases ha with e | e <;> (unfold Tr; omega)
    have hs0 : SM m F st σ := ⟨hσ.1, hσ.2.1, hσ.2.2.2⟩
    obtain ⟨σ', g1, g2⟩ := ih (1 - a) st (sL σ 33 st.length (vL (1 - a))) (i + 1) c (fun j hj => by
      rw [List.length_replicate] at hj
      have := h1 (j + 1) (by rw [List.length_replicate]; omega)
      rw [List.getElem_replicate] at this ⊢
      rw [show i + 1 + j = i + (j + 1) by omega]
      exact this) (by omega) h3 h4 ha' (hs0.set _)
    refine ⟨σ', ?_, fun n => ?_⟩
    · by_cases q : k % 2 = 1
      · rw [if_pos q, show 1 - (1 - a) = a by omega] at g1
        rw [if_neg (by omega)]; exact g1
      · rw [if_neg q] at g1
        rw [if_pos (by omega)]; exact g1
    · rw [show n + (k + 1) = (n + k) + 1 by omega, e_X11_works_14, hbσ, show (1600 : Int32) = nI 1600 from rfl, pk_mul, nI_add, if_neg (nI_ge (by omega) (by omega)), if_pos (inb_nI (by omega) (by omega)), ix_nI (by omega), hg]
      dsimp only [ltt]
      rw [if_pos (by decide), if_pos rfl, nI_pred, if_pos (inb_nI (by omega) (by omega)), if_pos (inb_nI (by omega) (by omega)), ix_nI (by omega), hσ.2.2.1, nI_1]
      have : (1 : Int64) - vL a = vL (1 - a) := by show Int64.ofInt 1 - Int64.ofInt a = Int64.ofInt (1 - a); rw [Int64.ofInt_sub]
      rw [this, g2 n, show i + 1 + k = i + (k + 1) by omega]
theorem runM {m : St} {F : Nat → Int} {bk : Nat} (hb : RBk bk m) (hF : ∀ j, j < 5 → Sm (F j)) : ∀ (l : List Tok) (st : List Int) (ts ts' : List Bool) (σ : St) (i c : Nat), chk l ts = some ts' → Ty st ts → st.length ≤ 64 → CodeM m i (cM l) → i + (cM l).length ≤ 1600 * bk + c → c ≤ 1600 → SM m F st σ → ∃ σ', SM m F (ev F l st) σ' ∧ ∀ n, f_X11_works_14 (n + (cM l).length) (nI c) (nI st.length) (nI i) σ = f_X11_works_14 n (nI c) (nI (ev F l st).length) (nI (i + (cM l).length)) σ' := by
  intro l
  induction l with
  | nil =>
    intro st ts ts' σ i c hk ht h64 hc h1 h2 hσ
    exact ⟨σ, hσ, fun n => rfl⟩
  | cons t l ih =>
    intro st ts ts' σ i c hk ht h64 hc h1 h2 hσ
    have hlen := ht.len
    have hbk := hb.1
    have hbσ : gI σ 0 12 = nI bk := by rw [hσ.1.1 0 12 rfl]; exact hb.2
    have e0 : cM (t :: l) = tkM t ++ cM l := rfl
    rw [e0] at hc h1 ⊢
    rw [List.length_append] at h1 ⊢
    show ∃ σ', SM m F (ev F l (tkS F t st)) σ' ∧ _
    have hk : (tkT t ts).bind (chk l) = some ts' := hk
    -- so many steps for this one
    have one : ∀ (ts1 : List Bool), tkT t ts = some ts1 → Ty (tkS F t st) ts1 → (tkS F t st).length ≤ 64 → (∃ σ1, SM m F (tkS F t st) σ1 ∧ ∀ n, f_X11_works_14 (n + (tkM t).length) (nI c) (nI st.length) (nI i) σ = f_X11_works_14 n (nI c) (nI (tkS F t st).length) (nI (i + (tkM t).length)) σ1) → ∃ σ', SM m F (ev F l (tkS F t st)) σ' ∧ ∀ n, f_X11_works_14 (n + ((tkM t).length + (cM l).length)) (nI c) (nI st.length) (nI i) σ = f_X11_works_14 n (nI c) (nI (ev F (t :: l) st).length) (nI (i + ((tkM t).length + (cM l).length))) σ' := by
      intro ts1 et ty hl ⟨σ1, s1, r1⟩
      rw [et] at hk
      obtain ⟨σ', g1, g2⟩ := ih (tkS F t st) ts1 ts' σ1 (i + (tkM t).length) c hk ty hl hc.r (by omega) h2 s1
      refine ⟨σ', g1, fun n => ?_⟩
      rw [show n + ((tkM t).length + (cM l).length) = (n + (cM l).length) + (tkM t).length by omega, r1, g2, show i + (tkM t).length + (cM l).length = i + ((tkM t).length + (cM l).length) by omega]
      rfl
    have cell : ∀ v, tkM t = [v] → gI σ 24 i = v.1 ∧ (v.1 = 0 → gI σ 25 i = v.2) ∧ i < 1600 * bk + c := by
      intro v e
      rw [e] at hc h1
      rw [List.length_singleton] at h1
      have := hc 0 (by rw [List.length_append, List.length_singleton]; omega)
      exact ⟨by rw [hσ.1.1 24 i rfl]; exact this.1, fun e => by rw [hσ.1.1 25 i rfl]; exact this.2 e, by omega⟩
    have hd : ∀ v n, tkM t = [v] → f_X11_works_14 (n + 1) (nI c) (nI st.length) (nI i) σ = if (9 : Int32) < v.1 then (if v.1 = (22 : Int32) then (if inb (nI st.length - (1 : Int32)) 1650 = true then (if inb (nI st.length - (1 : Int32)) 1650 = true then (ltt (sL σ 33 (ix (nI st.length - (1 : Int32))) ((1 : Int64) - (gL σ 33 (ix (nI st.length - (1 : Int32)))))) fun σ2 => (f_X11_works_14 n) (nI c) (nI st.length) (nI (i + 1)) σ2) else none) else none) else (if inb ((nI st.length + (-1 : Int32)) - (1 : Int32)) 1650 = true then (if inb (nI st.length + (-1 : Int32)) 1650 = true then ((f_X11_made v.1 (gL σ 33 (ix ((nI st.length + (-1 : Int32)) - (1 : Int32)))) (gL σ 33 (ix (nI st.length + (-1 : Int32)))) σ).bind fun q3 => if inb ((nI st.length + (-1 : Int32)) - (1 : Int32)) 1650 = true then (ltt (sL q3.2 33 (ix ((nI st.length + (-1 : Int32)) - (1 : Int32))) q3.1) fun σ4 => (f_X11_works_14 n) (nI c) (nI st.length + (-1 : Int32)) (nI (i + 1)) σ4) else none) else none) else none)) else (if v.1 = 0 then (f_X11_works_14 n) (nI c) (nI (st.length + 1)) (nI (i + 1)) (sL σ 33 st.length ((gI σ 25 i).toInt64)) else (if v.1 = (9 : Int32) then (f_X11_works_14 n) (nI c) (nI (st.length + 1)) (nI (i + 1)) (sL σ 33 st.length (1 : Int64)) else (if inb v.1 10 = true then (f_X11_works_14 n) (nI c) (nI (st.length + 1)) (nI (i + 1)) (sL σ 33 st.length ((gI σ 34 (ix v.1)).toInt64)) else none))) := by
      intro v n e
      obtain ⟨c1, c2, c3⟩ := cell v e
      rw [e_X11_works_14, hbσ, show (1600 : Int32) = nI 1600 from rfl, pk_mul, nI_add, if_neg (nI_ge c3 (by omega)), if_pos (inb_nI (by omega) (by omega)), ix_nI (by omega), c1, nI_1, nI_1, inb_nI (show i < 3200 by omega) (by omega), inb_nI (show st.length < 1650 by omega) (by omega), ix_nI (show st.length < 2 ^ 31 by omega)]
      simp only [ltt, if_true]
    unfold tkT at hk one
    unfold tkS at one ⊢
    unfold tkM at one cell hd ⊢
    by_cases k0 : t.1 = 0
    · simp only [if_pos k0] at hk one cell hd ⊢
      by_cases q : t.2 ≤ 1000000 ∧ ts.length < 64
      · refine one (false :: ts) (if_pos q) ⟨⟨?_, fun e => by cases e⟩, ht⟩ (by rw [List.length_cons]; omega) ⟨_, hσ.set (t.2 : Int), fun n => ?_⟩
        · unfold Sm; omega
        · rw [List.length_singleton, hd _ n rfl, if_neg (show ¬ (9 : Int32) < 0 by decide), if_pos rfl, (cell _ rfl).2.1 rfl, nI_l (by omega)]
          rfl
      · rw [if_neg q] at hk; cases hk
    simp only [if_neg k0] at hk one cell hd ⊢
    by_cases k1 : t.1 = 1
    · simp only [if_pos k1] at hk one cell hd ⊢
      by_cases q : t.2 < 5 ∧ ts.length < 64
      · refine one (false :: ts) (if_pos q) ⟨⟨hF _ q.1, fun e => by cases e⟩, ht⟩ (by rw [List.length_cons]; omega) ⟨_, hσ.set (F t.2), fun n => ?_⟩
        have sf := hF _ q.1
        unfold Sm at sf
        rw [List.length_singleton, hd _ n rfl, if_neg (show ¬ (9 : Int32) < nI (1 + t.2) from nI_nlt (a := 9) (by omega) (by omega)), if_neg (nI_ne0 (by omega) (by omega)), if_neg (show ¬ nI (1 + t.2) = (9 : Int32) from fun e => by have := (nI_eq (b := 9) (by omega) (by omega)).mp e; omega), if_pos (inb_nI (by omega) (by omega)), ix_nI (by omega), hσ.2.1 _ q.1, vL_I (by omega) (by omega)]
        rfl
      · rw [if_neg q] at hk; cases hk
    simp only [if_neg k1] at hk one cell hd ⊢
    by_cases k2 : t.1 = 2
    · simp only [if_pos k2] at hk one cell hd ⊢
      by_cases q : ts.length < 64
      · refine one (true :: ts) (if_pos q) ⟨⟨by unfold Sm; omega, fun _ => Or.inr rfl⟩, ht⟩ (by rw [List.length_cons]; omega) ⟨_, hσ.set 1, fun n => ?_⟩
        rw [List.length_singleton, hd _ n rfl, if_neg (by decide), if_neg (by decide), if_pos rfl]
        rfl
      · rw [if_neg q] at hk; cases hk
    simp only [if_neg k2] at hk one cell hd ⊢
    by_cases k3 : t.1 = 3
    · simp only [if_pos k3] at hk one cell hd ⊢
      rcases ts with _ | ⟨tb, r⟩
      · cases hk
      · cases tb
        · cases hk
        rcases st with _ | ⟨a, sr⟩
        · exact ht.elim
        · dsimp only at one ⊢
          have tra := ht.1.2 rfl
          rw [List.length_cons] at h64
          have hc' : CodeM m i (List.replicate t.2 (22, 0)) := by
            have := hc.l
            unfold tkM at this
            simp only [if_neg k0, if_neg k1, if_neg k2, if_pos k3] at this
            exact this
          have h1' : i + t.2 ≤ 1600 * bk + c := by
            have h1 := h1
            unfold tkM at h1
            simp only [if_neg k0, if_neg k1, if_neg k2, if_pos k3, List.length_replicate] at h1
            omega
          obtain ⟨σ1, p1, p2⟩ := notsM hb t.2 a sr σ i c hc' h1' h2 (by omega) tra hσ
          have tr1 : Tr (if t.2 % 2 = 1 then 1 - a else a) := by rcases tra with e | e <;> (unfold Tr; split <;> omega)
          refine one (true :: r) rfl ⟨⟨tr1.sm, fun _ => tr1⟩, ht.2⟩ (by rw [List.length_cons]; omega) ⟨σ1, p1, fun n => ?_⟩
          rw [List.length_replicate]
          exact p2 n
    simp only [if_neg k3] at hk one cell hd ⊢
    rcases ts with _ | ⟨tb, _ | ⟨ta, r⟩⟩
    · cases hk
    · cases hk
    · rcases st with _ | ⟨b, _ | ⟨a, sr⟩⟩
      · exact ht.elim
      · exact ht.2.elim
      · dsimp only at hk one ⊢
        rw [List.length_cons, List.length_cons] at h64
        have key : ∀ tt, t.2 < 12 → (t.2 < 2 → Tr a ∧ Tr b) → (if t.2 < 2 then (if ta = true ∧ tb = true then some (true :: r) else none) else if t.2 < 5 then (if ta = false ∧ tb = false then some (true :: r) else none) else if t.2 < 12 then (if ta = false ∧ tb = false then some (false :: r) else none) else none) = some (tt :: r) → (tt = true → t.2 < 5) → ∃ σ', SM m F (ev F l (opv t.2 a b :: sr)) σ' ∧ ∀ n, f_X11_works_14 (n + ([(mo t.2, (0 : Int32))].length + (cM l).length)) (nI c) (nI (b :: a :: sr).length) (nI i) σ = f_X11_works_14 n (nI c) (nI (ev F (t :: l) (b :: a :: sr)).length) (nI (i + ([(mo t.2, (0 : Int32))].length + (cM l).length))) σ' := by
          intro tt hlt htr het htt
          have os := opv_s (k := t.2) ht.2.1.1 ht.1.1 htr
          have hs0 : SM m F sr σ := ⟨hσ.1, hσ.2.1, hσ.2.2.2.2⟩
          refine one (tt :: r) het ⟨⟨os.1, fun e => os.2 (htt e)⟩, ht.2.2⟩ (by rw [List.length_cons]; omega) ⟨_, hs0.set (opv t.2 a b), fun n => ?_⟩
          obtain ⟨w1, w2⟩ := mo_gt t.2 hlt
          have v1 : gL σ 33 (sr.length + 1) = vL b := hσ.2.2.1
          have v2 : gL σ 33 sr.length = vL a := hσ.2.2.2.1
          rw [List.length_singleton, hd _ n rfl, if_pos w1, if_neg w2, List.length_cons, List.length_cons, pk_m1, nI_pred, if_pos (inb_nI (by omega) (by omega)), if_pos (inb_nI (by omega) (by omega)), ix_nI (by omega), ix_nI (by omega), v1, v2, made_M ht.2.1.1 ht.1.1 htr]
          dsimp only [Option.bind]
          rw [if_pos (inb_nI (by omega) (by omega))]
          rfl
        by_cases q2 : t.2 < 2
        · by_cases q : ta = true ∧ tb = true
          · exact key true (by omega) (fun _ => ⟨ht.2.1.2 q.1, ht.1.2 q.2⟩) (by rw [if_pos q2, if_pos q]) (fun _ => by omega)
          · rw [if_pos q2, if_neg q] at hk; cases hk
        · by_cases q5 : t.2 < 5
          · by_cases q : ta = false ∧ tb = false
            · exact key true (by omega) (fun e => absurd e q2) (by rw [if_neg q2, if_pos q5, if_pos q]) (fun _ => q5)
            · rw [if_neg q2, if_pos q5, if_neg q] at hk; cases hk
          · by_cases q12 : t.2 < 12
            · by_cases q : ta = false ∧ tb = false
              · exact key false q12 (fun e => absurd e q2) (by rw [if_neg q2, if_neg q5, if_pos q12, if_pos q]) (fun e => by cases e)
              · rw [if_neg q2, if_neg q5, if_pos q12, if_neg q] at hk; cases hk
            · rw [if_neg q2, if_neg q5, if_neg q12] at hk; cases hk
