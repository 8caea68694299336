theorem kbp_6 : (Int8.ofInt (6)).toInt32 = (6 : Int32) := by decide +kernel
theorem kbp_10 : (Int8.ofInt (10)).toInt32 = (10 : Int32) := by decide +kernel
theorem kic_1 : Int32.ofInt (1) = (1 : Int32) := by decide +kernel
theorem kic_2 : Int32.ofInt (2) = (2 : Int32) := by decide +kernel
theorem ksp_1600 : (Int16.ofInt (1600)).toInt32 = (1600 : Int32) := by decide +kernel
def shF : List Sh := [.inl (0, 26)]
def lnF (o : Nat) : Nat := match shF[o]? with
  | some (.inl q) => q.2
  | _ => 0
def arF (o : Nat) : Prop := shF[o]? = some (.inl (0, lnF o))
noncomputable section
def f_K7_fill_53178_5 (r0 : Nat) : Nat → Int32 → Int32 → Int32 → St → Option (Unit × St)
  | 0, _, _, _, _ => none
  | n + 1, x1, x2, x3, σ => if x3 ≤ x2 then (some ((), σ)) else (if inb x2 (lnF r0) = true then (ltt (sI σ r0 (ix x2) x1) fun σ4 => (f_K7_fill_53178_5 r0 n) x1 (x2 + (1 : Int32)) x3 σ4) else none)
def f_K7_fill_53178 (r0 : Nat) (x1 : Int32) (σ : St) : Option (Unit × St) := ltt (Int32.ofNat (lnF r0)) fun w3 => f_K7_fill_53178_5 r0 FU x1 (0 : Int32) w3 σ
end
set_option maxRecDepth 100000 in
set_option maxHeartbeats 4000000 in
theorem w_K7_fill_53178_5 {α : Nat → Nat} {D : va_G} {cA : Nat → ClassId} {z : Cz} (C : CX shF α D cA z RJ7 cJ7_fill_53178 4 none 0 0) (r0 : Nat) (hr0 : arF r0) : ∀ (n : Nat) (x1 : Int32) (x2 : Int32) (x3 : Int32) (σ : St), RX emV shF α D cA z 4 σ 5 [(0, .ref (α r0)), (1, .int x1), (2, .int x2), (3, .int x3)] [] (f_K7_fill_53178_5 r0 n x1 x2 x3 σ) := by
  intro n
  induction n with
  | zero => intros; exact rx_none
  | succ n hk_5 =>
    intro x1 x2 x3 σ
    rw [f_K7_fill_53178_5.eq_2]
    refine rx_iload_n C 2 dJ7_fill_53178_5 rfl rfl ?_
    refine rx_iload_n C 3 dJ7_fill_53178_6 rfl rfl ?_
    refine rx_icmp_ge C (tgt := 20) dJ7_fill_53178_7 (by decide) (fun _ => ?_) (fun _ => ?_)
    · exact rx_vret C dJ7_fill_53178_20
    · refine rx_aload_n C 0 dJ7_fill_53178_10 rfl rfl ?_
      refine rx_iload_n C 2 dJ7_fill_53178_11 rfl rfl ?_
      refine rx_iload_n C 1 dJ7_fill_53178_12 rfl rfl ?_
      refine rx_iast C (n := (lnF r0)) hr0 dJ7_fill_53178_13 (fun _ => ?_)
      refine rx_lts (fun σ4 => ?_)
      refine rx_iinc C (k0 := 2) (v := x2 + (1 : Int32)) [(2, .int (x2 + (1 : Int32))), (0, .ref (α r0)), (1, .int x1), (3, .int x3)] dJ7_fill_53178_14 rfl (congrArg _ ic_1) (by decide) rfl ?_
      refine rx_goto C (tgt := 5) dJ7_fill_53178_17 (by decide) ?_
      exact RX.loc (hk_5 x1 (x2 + (1 : Int32)) x3 σ4) [1, 2, 0, 3] rfl
set_option maxRecDepth 100000 in
set_option maxHeartbeats 4000000 in
theorem w_K7_fill_53178_e {α : Nat → Nat} {D : va_G} {cA : Nat → ClassId} {z : Cz} (C : CX shF α D cA z RJ7 cJ7_fill_53178 4 none 0 0) (r0 : Nat) (hr0 : arF r0) (x1 : Int32) (σ : St) : RX emV shF α D cA z 4 σ 0 [(0, .ref (α r0)), (1, .int x1)] [] (f_K7_fill_53178 r0 x1 σ) := by
  unfold f_K7_fill_53178
  refine rx_iconst C dJ7_fill_53178_0 ic_0 ?_
  refine rx_istore_n C [(2, .int (0 : Int32)), (0, .ref (α r0)), (1, .int x1)] dJ7_fill_53178_1 rfl (by decide) rfl ?_
  refine rx_aload_n C 1 dJ7_fill_53178_2 rfl rfl ?_
  refine rx_alen C (n := (lnF r0)) hr0 rfl dJ7_fill_53178_3 ?_
  refine rx_lti (fun w3 => ?_)
  refine rx_istore_n C [(3, .int w3), (2, .int (0 : Int32)), (0, .ref (α r0)), (1, .int x1)] dJ7_fill_53178_4 rfl (by decide) rfl ?_
  exact RX.loc (w_K7_fill_53178_5 C r0 hr0 FU x1 (0 : Int32) w3 σ) [2, 3, 1, 0] rfl
theorem m_K7_fill_53178 (l : Launch) {α : Nat → Nat} {D : va_G} {cA : Nat → ClassId} (hin : inj shF.length α) (r0 : Nat) (hr0 : arF r0) (x1 : Int32) (σ : St) : CT shF l yJ7_fill_53178 cJ7_fill_53178 4 none 0 0 emV α D cA [.ref (α r0), .int x1] σ (f_K7_fill_53178 r0 x1 σ) := ct_ofF (by decide +kernel) (Nat.le_of_ble_eq_true rfl) hin (fun z _ C => w_K7_fill_53178_e C r0 hr0 x1 σ)
theorem inb_nI {i N : Nat} (h : i < N) (hN : N < 2 ^ 31) : inb (nI i) N = true := by
  have h1 : ¬ nI i < 0 := nI_pos (by omega)
  have h2 : (nI i).toNatClampNeg = i := nI_clamp (by omega)
  simp [inb, h1, h2]
  omega
theorem ix_nI {i : Nat} (h : i < 2 ^ 31) : ix (nI i) = i := nI_clamp h
theorem fillK_loop : ∀ (n i : Nat) (σ : St), i ≤ 26 → 27 ≤ n + i → (∀ j, j < i → gI σ 0 j = 10) → ∃ σ1, f_K7_fill_53178_5 0 n 10 (nI i) 26 σ = some ((), σ1) ∧ ∀ j, j < 26 → gI σ1 0 j = 10 := by
  intro n
  induction n with
  | zero => intro i σ h1 h2; exact absurd h2 (by omega)
  | succ n ih =>
    intro i σ h1 h2 h3
    rw [f_K7_fill_53178_5.eq_2]
    by_cases hi : i = 26
    · subst hi
      rw [if_pos (show (26 : Int32) ≤ nI 26 by decide)]
      exact ⟨σ, rfl, h3⟩
    · rw [if_neg (show ¬ (26 : Int32) ≤ nI i from nI_ge (b := 26) (by omega) (by omega)), if_pos (show inb (nI i) (lnF 0) = true from inb_nI (N := 26) (by omega) (by omega))]
      have e : nI i + 1 = nI (i + 1) := nI_1 i
      unfold ltt
      rw [e]
      refine ih (i + 1) _ (by omega) (by omega) (fun j hj => ?_)
      rw [gI_sI, ix_nI (by omega)]
      by_cases hji : j = i
      · rw [if_pos ⟨rfl, hji⟩]
      · rw [if_neg (fun q => hji q.2)]; exact h3 j (by omega)
theorem fillK (σ : St) : ∃ σ1, f_K7_fill_53178 0 10 σ = some ((), σ1) ∧ ∀ j, j < 26 → gI σ1 0 j = 10 := by
  have h := fillK_loop FU 0 σ (by omega) (by rw [FU_eq]; omega) (fun j h => absurd h (by omega))
  have e1 : Int32.ofNat (lnF 0) = 26 := by decide +kernel
  have e2 : nI 0 = 0 := nI_0
  unfold f_K7_fill_53178 ltt
  rw [e1]
  rw [e2] at h
  exact h
theorem cel_ext {D : va_G} {cl : List vw_C} {q n : Nat} {c : ClassId} {f g : Nat → Int32} {H : Heap} (h : ∀ j, j < n → f j = g j) (hf : va_at D cl (q, .inl (c, n, .inl f)) H) : va_at D cl (q, .inl (c, n, .inl g)) H := by
  have e : vp_cell c (n, .inl f) = vp_cell c (n, .inl g) := by
    rw [vp_cell_i, vp_cell_i]
    unfold arrV
    congr 1
    apply Array.ext
    · simp
    · intro i h1 h2
      simp at h1
      simp [h i h1]
  show H[q]? = some (vp_cell c (n, .inl g))
  rw [← e]
  exact hf
theorem ra_fill {D : va_G} {cA : Nat → ClassId} {z : Cz} {own : String} {cc : ByteArray} {nL : Nat} {A : Nat → Prop} {fr mc ms lo : Nat} {ce sl : Nat} {Q : State → Prop} {ws : va_W} {pc : Nat} {lv : List (Nat × Value)} (C : CA D cA z own cc nL A fr mc ms lo) {idx q : Nat} {f : Nat → Int32} (q0 : Nat) (he : ws[q0]? = some (q, .inl (cA 0, 26, .inl f))) (hlk : Cond.methodLink own idx yJ7_fill_53178 ∈ tbG) (hc : ce ≤ mc ∧ sl ≤ ms) (hr : 0 + 1 ≤ fr ∧ 8 + (4 + 11) + 0 ≤ lo) (hd : decode cc pc = .ok (.invokestatic idx, 3)) (ws' : va_W) (hw : ws.set q0 (q, .inl (cA 0, 26, .inl (fun _ => 10))) = ws')
    (kk : RA D z nL A ce sl Q ws' (pc + 3) lv []) : RA D z nL A ce sl Q ws pc lv [.int 10, .ref q] := fun H locs ls hP hD hS hl => by
  obtain ⟨m1, m2, m4, m5, m6, m7⟩ := ms_J7_fill_53178
  have hg : GoodIn tbG (va_wsS own idx yJ7_fill_53178 (.code yJ7_fill_53178 cJ7_fill_53178 4 none :: tbG)) := by
    intro w hw
    have hm : w ∈ tbG := by
      rcases List.mem_append.mp hw with h | h
      · rcases List.mem_cons.mp h with rfl | h
        · exact hlk
        · rcases List.mem_cons.mp h with rfl | h
          · exact m2
          · rcases List.mem_cons.mp h with rfl | h
            · exact m4
            · cases h
      · rcases List.mem_cons.mp h with rfl | h
        · exact m1
        · exact h
    exact tb_good w hm
  obtain ⟨σ1, e1, e2⟩ := fillK (fun _ j => f j, fun _ _ => 0, fun _ _ => 0)
  have hPc : va_P D clX (cels shF (fun _ => q) cA (fun _ j => f j, fun _ _ => 0, fun _ _ => 0)) H := fun k x hk => by
    obtain ⟨sh, h1, h2⟩ := cels_of hk
    have hk0 : k = 0 := by have := cels_lt h1; simp [shF] at this; omega
    subst hk0
    cases h1
    rw [h2]
    exact hP q0 _ he
  have hAq : A q := hD.2 q0 _ he
  have hax : ∀ w, axs shF.length (fun _ => q) w → A w := fun w ⟨_, _, h⟩ => by rw [h]; exact hAq
  have hM := m_K7_fill_53178 z.l (α := fun _ => q) (D := D) (cA := cA) (fun i j h1 h2 _ => by simp [shF] at h1 h2; omega) 0 rfl 10 (fun _ j => f j, fun _ _ => 0, fun _ _ => 0) () σ1 e1
  intro T hT X
  obtain ⟨v, st₀, t, T', L, h0, X', hL, g1, g2, ⟨⟨hv, hp, hk1⟩, hz, hk⟩, st⟩ := va_runS (rest := []) (As := [.ref q, .int 10]) ⟨C.exec, C.code, C.maxl, C.ow, C.hts⟩ hM (va_cwS 2 C.hts hg rfl rfl rfl ⟨m5, m6, m7⟩ (by rw [C.room]; exact hr)) ⟨ct_blind, fun U hU hW => ⟨rfl, by rw [hU]; exact hPc, va_K.moved hW.alike C.K⟩⟩ rfl rfl hl.1 rfl (lv_room (Nat.le_of_ble_eq_true rfl)) hd (by rw [C.room]; exact hc) T hT X
  cases hv
  rw [h0] at hz hk
  have hat : va_at D clX (q, .inl (cA 0, 26, .inl (fun _ => 10))) T'.heap := by
    refine cel_ext (f := gI σ1 0) e2 ?_
    rw [g1]
    exact hp 0 _ rfl
  have hoff : ∀ w : Nat, w ≠ q → w < H.size → T'.heap[w]? = H[w]? := fun w h1 h2 => by rw [g1]; exact hk w h2 (fun ⟨_, _, h⟩ => h1 h)
  have hP2 : va_P D clX ws' T'.heap := by
    rw [← hw]
    intro k x hkx
    by_cases hkp : k = q0
    · subst hkp
      rw [List.getElem?_set_self (List.getElem?_eq_some_iff.mp he).1] at hkx
      cases hkx
      exact hat
    · rw [List.getElem?_set_ne (Ne.symm hkp)] at hkx
      exact (hP k x hkx).kept (hoff x.1 (fun w => hkp (hD.1 k q0 x _ hkx he w)) (hP k x hkx).lt)
  have hD2 : va_D A ws' := by rw [← hw]; exact hD.set he
  obtain ⟨t2, a1, b1⟩ := kk T'.heap (locs ++ L) ls hP2 hD2 ⟨Nat.le_trans hS.1 (by rw [g1]; exact hz), fun w h1 h2 => by rw [g1, hk w (Nat.lt_of_lt_of_le h1 hS.1) (fun w3 => h2 (hax w w3))]; exact hS.2.1 w h1 h2, fun w hw => by
      rcases List.mem_append.mp hw with h | h
      · exact hS.2.2 w h
      · exact hax _ (hL w h)⟩ hl T' rfl X'
  exact ⟨t2, st t2 a1, b1⟩
abbrev kc_X4 (cA : Nat → ClassId) (q : Nat) (u : Nat → Nat) : va_W := [(q, .inr (4, [.ref (u 0), .ref (u 3), .ref (u 6), .ref (u 9), .ref (u 12), .ref (u 15), .ref (u 16), .ref (u 17), .ref (u 18), .int 0, .int 0])), ((u 0), .inr (8, [.int (8), .int (3), .ref (u 1), .ref (u 2), .int (0)])), ((u 1), .inl (cA 0, 8, .inl (fun _ => 0))), ((u 2), .inl (cA 0, 24, .inl (fun _ => 0))), ((u 3), .inr (8, [.int (12), .int (2), .ref (u 4), .ref (u 5), .int (0)])), ((u 4), .inl (cA 0, 12, .inl (fun _ => 0))), ((u 5), .inl (cA 0, 24, .inl (fun _ => 0))), ((u 6), .inr (8, [.int (6), .int (2), .ref (u 7), .ref (u 8), .int (0)])), ((u 7), .inl (cA 0, 6, .inl (fun _ => 0))), ((u 8), .inl (cA 0, 12, .inl (fun _ => 0))), ((u 9), .inr (8, [.int (8), .int (3), .ref (u 10), .ref (u 11), .int (0)])), ((u 10), .inl (cA 0, 8, .inl (fun _ => 0))), ((u 11), .inl (cA 0, 24, .inl (fun _ => 0))), ((u 12), .inr (8, [.int (4), .int (1), .ref (u 13), .ref (u 14), .int (0)])), ((u 13), .inl (cA 0, 4, .inl (fun _ => 0))), ((u 14), .inl (cA 0, 4, .inl (fun _ => 0))), ((u 15), .inl (cA 0, 26, .inl (fun _ => 10))), ((u 16), .inl (cA 0, 26, .inl (fun _ => 0))), ((u 17), .inl (cA 0, 8, .inl (fun _ => 0))), ((u 18), .inl (cA 0, 1600, .inl (fun _ => 0)))]
set_option maxRecDepth 100000 in
set_option maxHeartbeats 4000000 in
theorem c_X4_init (l : Launch) (D : va_G) (cA : Nat → ClassId) (q : Nat) : KT l yX4_init cX4_init 1 2 34 19 (5 + 8 + 24 + 5 + 12 + 24 + 5 + 6 + 12 + 5 + 8 + 24 + 5 + 4 + 4 + 26 + 26 + 8 + 1600) D cA q (.inr (4, [.null, .null, .null, .null, .null, .null, .null, .null, .null, .int 0, .int 0])) [] (fun _ => True) (kc_X4 cA q) := by
  refine kt_of rfl rfl (Nat.le_of_ble_eq_true rfl) (fun z hz hG C => ?_)
  subst hz
  refine ra_aload_n C 0 dX4_init_0 rfl rfl ?_
  refine ra_objI C lk_X4_3 dX4_init_1 (by decide) (Nat.le_of_ble_eq_true rfl) ?_
  refine ra_aload_n C 0 dX4_init_4 rfl rfl ?_
  refine ra_new C [.int 0, .int 0, .null, .null, .int 0] fc_X8 lk_X4_9 ins_X8 ini_X8 df_X8 (by omega) (by omega) dX4_init_5 (fun q1 => [(q, .inr (4, [.null, .null, .null, .null, .null, .null, .null, .null, .null, .int 0, .int 0])), (q1, .inr (8, [.int 0, .int 0, .null, .null, .int 0]))]) (fun _ => rfl) (fun q1 => ?_)
  refine ra_dup C dX4_init_8 rfl ?_
  refine ra_bipush C dX4_init_9 kbp_8 ?_
  refine ra_iconst C dX4_init_11 kic_3 ?_
  refine ra_ctor C (n := 2) [.int (8), .int (3)] [.ref q1, .ref q] 1 [0] [(q, .inr (4, [.null, .null, .null, .null, .null, .null, .null, .null, .null, .int 0, .int 0]))] (c_X8_init z.l D cA q1 (8) (3) 8 24 (by decide) (by decide) (by decide) (by decide) (by decide) (by decide)) (fun _ _ _ _ _ => trivial) (fun _ _ _ _ _ _ _ => trivial) cd_X8_init im_X8_init ini_X8 lk_X4_11 ⟨rfl, by decide +kernel, by decide +kernel, by decide +kernel⟩ rfl rfl rfl (by decide) (by decide) rfl (Nat.le_of_ble_eq_true rfl) ⟨Nat.le_of_ble_eq_true rfl, Nat.le_of_ble_eq_true rfl⟩ ⟨by omega, by omega⟩ dX4_init_12 (fun u1 => [(q, .inr (4, [.null, .null, .null, .null, .null, .null, .null, .null, .null, .int 0, .int 0])), (q1, .inr (8, [.int (8), .int (3), .ref (u1 0), .ref (u1 1), .int (0)])), ((u1 0), .inl (cA 0, 8, .inl (fun _ => 0))), ((u1 1), .inl (cA 0, 24, .inl (fun _ => 0)))]) (fun _ => rfl) (fun u1 => ?_)
  refine ra_putF C (k := 0) 0 rfl fc_X4 (by decide) lk_X4_14 [(q, .inr (4, [.ref q1, .null, .null, .null, .null, .null, .null, .null, .null, .int 0, .int 0])), (q1, .inr (8, [.int (8), .int (3), .ref (u1 0), .ref (u1 1), .int (0)])), ((u1 0), .inl (cA 0, 8, .inl (fun _ => 0))), ((u1 1), .inl (cA 0, 24, .inl (fun _ => 0)))] rfl rfl rfl ⟨rfl, rfl⟩ (Nat.le_of_ble_eq_true rfl) rfl dX4_init_15 ?_
  refine ra_aload_n C 0 dX4_init_18 rfl rfl ?_
  refine ra_new C [.int 0, .int 0, .null, .null, .int 0] fc_X8 lk_X4_9 ins_X8 ini_X8 df_X8 (by omega) (by omega) dX4_init_19 (fun q2 => [(q, .inr (4, [.ref q1, .null, .null, .null, .null, .null, .null, .null, .null, .int 0, .int 0])), (q1, .inr (8, [.int (8), .int (3), .ref (u1 0), .ref (u1 1), .int (0)])), ((u1 0), .inl (cA 0, 8, .inl (fun _ => 0))), ((u1 1), .inl (cA 0, 24, .inl (fun _ => 0))), (q2, .inr (8, [.int 0, .int 0, .null, .null, .int 0]))]) (fun _ => rfl) (fun q2 => ?_)
  refine ra_dup C dX4_init_22 rfl ?_
  refine ra_bipush C dX4_init_23 kbp_12 ?_
  refine ra_iconst C dX4_init_25 kic_2 ?_
  refine ra_ctor C (n := 2) [.int (12), .int (2)] [.ref q2, .ref q] 4 [0, 1, 2, 3] [(q, .inr (4, [.ref q1, .null, .null, .null, .null, .null, .null, .null, .null, .int 0, .int 0])), (q1, .inr (8, [.int (8), .int (3), .ref (u1 0), .ref (u1 1), .int (0)])), ((u1 0), .inl (cA 0, 8, .inl (fun _ => 0))), ((u1 1), .inl (cA 0, 24, .inl (fun _ => 0)))] (c_X8_init z.l D cA q2 (12) (2) 12 24 (by decide) (by decide) (by decide) (by decide) (by decide) (by decide)) (fun _ _ _ _ _ => trivial) (fun _ _ _ _ _ _ _ => trivial) cd_X8_init im_X8_init ini_X8 lk_X4_11 ⟨rfl, by decide +kernel, by decide +kernel, by decide +kernel⟩ rfl rfl rfl (by decide) (by decide) rfl (Nat.le_of_ble_eq_true rfl) ⟨Nat.le_of_ble_eq_true rfl, Nat.le_of_ble_eq_true rfl⟩ ⟨by omega, by omega⟩ dX4_init_26 (fun u2 => [(q, .inr (4, [.ref q1, .null, .null, .null, .null, .null, .null, .null, .null, .int 0, .int 0])), (q1, .inr (8, [.int (8), .int (3), .ref (u1 0), .ref (u1 1), .int (0)])), ((u1 0), .inl (cA 0, 8, .inl (fun _ => 0))), ((u1 1), .inl (cA 0, 24, .inl (fun _ => 0))), (q2, .inr (8, [.int (12), .int (2), .ref (u2 0), .ref (u2 1), .int (0)])), ((u2 0), .inl (cA 0, 12, .inl (fun _ => 0))), ((u2 1), .inl (cA 0, 24, .inl (fun _ => 0)))]) (fun _ => rfl) (fun u2 => ?_)
  refine ra_putF C (k := 1) 0 rfl fc_X4 (by decide) lk_X4_20 [(q, .inr (4, [.ref q1, .ref q2, .null, .null, .null, .null, .null, .null, .null, .int 0, .int 0])), (q1, .inr (8, [.int (8), .int (3), .ref (u1 0), .ref (u1 1), .int (0)])), ((u1 0), .inl (cA 0, 8, .inl (fun _ => 0))), ((u1 1), .inl (cA 0, 24, .inl (fun _ => 0))), (q2, .inr (8, [.int (12), .int (2), .ref (u2 0), .ref (u2 1), .int (0)])), ((u2 0), .inl (cA 0, 12, .inl (fun _ => 0))), ((u2 1), .inl (cA 0, 24, .inl (fun _ => 0)))] rfl rfl rfl ⟨rfl, rfl⟩ (Nat.le_of_ble_eq_true rfl) rfl dX4_init_29 ?_
  refine ra_aload_n C 0 dX4_init_32 rfl rfl ?_
  refine ra_new C [.int 0, .int 0, .null, .null, .int 0] fc_X8 lk_X4_9 ins_X8 ini_X8 df_X8 (by omega) (by omega) dX4_init_33 (fun q3 => [(q, .inr (4, [.ref q1, .ref q2, .null, .null, .null, .null, .null, .null, .null, .int 0, .int 0])), (q1, .inr (8, [.int (8), .int (3), .ref (u1 0), .ref (u1 1), .int (0)])), ((u1 0), .inl (cA 0, 8, .inl (fun _ => 0))), ((u1 1), .inl (cA 0, 24, .inl (fun _ => 0))), (q2, .inr (8, [.int (12), .int (2), .ref (u2 0), .ref (u2 1), .int (0)])), ((u2 0), .inl (cA 0, 12, .inl (fun _ => 0))), ((u2 1), .inl (cA 0, 24, .inl (fun _ => 0))), (q3, .inr (8, [.int 0, .int 0, .null, .null, .int 0]))]) (fun _ => rfl) (fun q3 => ?_)
  refine ra_dup C dX4_init_36 rfl ?_
  refine ra_bipush C dX4_init_37 kbp_6 ?_
  refine ra_iconst C dX4_init_39 kic_2 ?_
  refine ra_ctor C (n := 2) [.int (6), .int (2)] [.ref q3, .ref q] 7 [0, 1, 2, 3, 4, 5, 6] [(q, .inr (4, [.ref q1, .ref q2, .null, .null, .null, .null, .null, .null, .null, .int 0, .int 0])), (q1, .inr (8, [.int (8), .int (3), .ref (u1 0), .ref (u1 1), .int (0)])), ((u1 0), .inl (cA 0, 8, .inl (fun _ => 0))), ((u1 1), .inl (cA 0, 24, .inl (fun _ => 0))), (q2, .inr (8, [.int (12), .int (2), .ref (u2 0), .ref (u2 1), .int (0)])), ((u2 0), .inl (cA 0, 12, .inl (fun _ => 0))), ((u2 1), .inl (cA 0, 24, .inl (fun _ => 0)))] (c_X8_init z.l D cA q3 (6) (2) 6 12 (by decide) (by decide) (by decide) (by decide) (by decide) (by decide)) (fun _ _ _ _ _ => trivial) (fun _ _ _ _ _ _ _ => trivial) cd_X8_init im_X8_init ini_X8 lk_X4_11 ⟨rfl, by decide +kernel, by decide +kernel, by decide +kernel⟩ rfl rfl rfl (by decide) (by decide) rfl (Nat.le_of_ble_eq_true rfl) ⟨Nat.le_of_ble_eq_true rfl, Nat.le_of_ble_eq_true rfl⟩ ⟨by omega, by omega⟩ dX4_init_40 (fun u3 => [(q, .inr (4, [.ref q1, .ref q2, .null, .null, .null, .null, .null, .null, .null, .int 0, .int 0])), (q1, .inr (8, [.int (8), .int (3), .ref (u1 0), .ref (u1 1), .int (0)])), ((u1 0), .inl (cA 0, 8, .inl (fun _ => 0))), ((u1 1), .inl (cA 0, 24, .inl (fun _ => 0))), (q2, .inr (8, [.int (12), .int (2), .ref (u2 0), .ref (u2 1), .int (0)])), ((u2 0), .inl (cA 0, 12, .inl (fun _ => 0))), ((u2 1), .inl (cA 0, 24, .inl (fun _ => 0))), (q3, .inr (8, [.int (6), .int (2), .ref (u3 0), .ref (u3 1), .int (0)])), ((u3 0), .inl (cA 0, 6, .inl (fun _ => 0))), ((u3 1), .inl (cA 0, 12, .inl (fun _ => 0)))]) (fun _ => rfl) (fun u3 => ?_)
  refine ra_putF C (k := 2) 0 rfl fc_X4 (by decide) lk_X4_23 [(q, .inr (4, [.ref q1, .ref q2, .ref q3, .null, .null, .null, .null, .null, .null, .int 0, .int 0])), (q1, .inr (8, [.int (8), .int (3), .ref (u1 0), .ref (u1 1), .int (0)])), ((u1 0), .inl (cA 0, 8, .inl (fun _ => 0))), ((u1 1), .inl (cA 0, 24, .inl (fun _ => 0))), (q2, .inr (8, [.int (12), .int (2), .ref (u2 0), .ref (u2 1), .int (0)])), ((u2 0), .inl (cA 0, 12, .inl (fun _ => 0))), ((u2 1), .inl (cA 0, 24, .inl (fun _ => 0))), (q3, .inr (8, [.int (6), .int (2), .ref (u3 0), .ref (u3 1), .int (0)])), ((u3 0), .inl (cA 0, 6, .inl (fun _ => 0))), ((u3 1), .inl (cA 0, 12, .inl (fun _ => 0)))] rfl rfl rfl ⟨rfl, rfl⟩ (Nat.le_of_ble_eq_true rfl) rfl dX4_init_43 ?_
  refine ra_aload_n C 0 dX4_init_46 rfl rfl ?_
  refine ra_new C [.int 0, .int 0, .null, .null, .int 0] fc_X8 lk_X4_9 ins_X8 ini_X8 df_X8 (by omega) (by omega) dX4_init_47 (fun q4 => [(q, .inr (4, [.ref q1, .ref q2, .ref q3, .null, .null, .null, .null, .null, .null, .int 0, .int 0])), (q1, .inr (8, [.int (8), .int (3), .ref (u1 0), .ref (u1 1), .int (0)])), ((u1 0), .inl (cA 0, 8, .inl (fun _ => 0))), ((u1 1), .inl (cA 0, 24, .inl (fun _ => 0))), (q2, .inr (8, [.int (12), .int (2), .ref (u2 0), .ref (u2 1), .int (0)])), ((u2 0), .inl (cA 0, 12, .inl (fun _ => 0))), ((u2 1), .inl (cA 0, 24, .inl (fun _ => 0))), (q3, .inr (8, [.int (6), .int (2), .ref (u3 0), .ref (u3 1), .int (0)])), ((u3 0), .inl (cA 0, 6, .inl (fun _ => 0))), ((u3 1), .inl (cA 0, 12, .inl (fun _ => 0))), (q4, .inr (8, [.int 0, .int 0, .null, .null, .int 0]))]) (fun _ => rfl) (fun q4 => ?_)
  refine ra_dup C dX4_init_50 rfl ?_
  refine ra_bipush C dX4_init_51 kbp_8 ?_
  refine ra_iconst C dX4_init_53 kic_3 ?_
  refine ra_ctor C (n := 2) [.int (8), .int (3)] [.ref q4, .ref q] 10 [0, 1, 2, 3, 4, 5, 6, 7, 8, 9] [(q, .inr (4, [.ref q1, .ref q2, .ref q3, .null, .null, .null, .null, .null, .null, .int 0, .int 0])), (q1, .inr (8, [.int (8), .int (3), .ref (u1 0), .ref (u1 1), .int (0)])), ((u1 0), .inl (cA 0, 8, .inl (fun _ => 0))), ((u1 1), .inl (cA 0, 24, .inl (fun _ => 0))), (q2, .inr (8, [.int (12), .int (2), .ref (u2 0), .ref (u2 1), .int (0)])), ((u2 0), .inl (cA 0, 12, .inl (fun _ => 0))), ((u2 1), .inl (cA 0, 24, .inl (fun _ => 0))), (q3, .inr (8, [.int (6), .int (2), .ref (u3 0), .ref (u3 1), .int (0)])), ((u3 0), .inl (cA 0, 6, .inl (fun _ => 0))), ((u3 1), .inl (cA 0, 12, .inl (fun _ => 0)))] (c_X8_init z.l D cA q4 (8) (3) 8 24 (by decide) (by decide) (by decide) (by decide) (by decide) (by decide)) (fun _ _ _ _ _ => trivial) (fun _ _ _ _ _ _ _ => trivial) cd_X8_init im_X8_init ini_X8 lk_X4_11 ⟨rfl, by decide +kernel, by decide +kernel, by decide +kernel⟩ rfl rfl rfl (by decide) (by decide) rfl (Nat.le_of_ble_eq_true rfl) ⟨Nat.le_of_ble_eq_true rfl, Nat.le_of_ble_eq_true rfl⟩ ⟨by omega, by omega⟩ dX4_init_54 (fun u4 => [(q, .inr (4, [.ref q1, .ref q2, .ref q3, .null, .null, .null, .null, .null, .null, .int 0, .int 0])), (q1, .inr (8, [.int (8), .int (3), .ref (u1 0), .ref (u1 1), .int (0)])), ((u1 0), .inl (cA 0, 8, .inl (fun _ => 0))), ((u1 1), .inl (cA 0, 24, .inl (fun _ => 0))), (q2, .inr (8, [.int (12), .int (2), .ref (u2 0), .ref (u2 1), .int (0)])), ((u2 0), .inl (cA 0, 12, .inl (fun _ => 0))), ((u2 1), .inl (cA 0, 24, .inl (fun _ => 0))), (q3, .inr (8, [.int (6), .int (2), .ref (u3 0), .ref (u3 1), .int (0)])), ((u3 0), .inl (cA 0, 6, .inl (fun _ => 0))), ((u3 1), .inl (cA 0, 12, .inl (fun _ => 0))), (q4, .inr (8, [.int (8), .int (3), .ref (u4 0), .ref (u4 1), .int (0)])), ((u4 0), .inl (cA 0, 8, .inl (fun _ => 0))), ((u4 1), .inl (cA 0, 24, .inl (fun _ => 0)))]) (fun _ => rfl) (fun u4 => ?_)
  refine ra_putF C (k := 3) 0 rfl fc_X4 (by decide) lk_X4_26 [(q, .inr (4, [.ref q1, .ref q2, .ref q3, .ref q4, .null, .null, .null, .null, .null, .int 0, .int 0])), (q1, .inr (8, [.int (8), .int (3), .ref (u1 0), .ref (u1 1), .int (0)])), ((u1 0), .inl (cA 0, 8, .inl (fun _ => 0))), ((u1 1), .inl (cA 0, 24, .inl (fun _ => 0))), (q2, .inr (8, [.int (12), .int (2), .ref (u2 0), .ref (u2 1), .int (0)])), ((u2 0), .inl (cA 0, 12, .inl (fun _ => 0))), ((u2 1), .inl (cA 0, 24, .inl (fun _ => 0))), (q3, .inr (8, [.int (6), .int (2), .ref (u3 0), .ref (u3 1), .int (0)])), ((u3 0), .inl (cA 0, 6, .inl (fun _ => 0))), ((u3 1), .inl (cA 0, 12, .inl (fun _ => 0))), (q4, .inr (8, [.int (8), .int (3), .ref (u4 0), .ref (u4 1), .int (0)])), ((u4 0), .inl (cA 0, 8, .inl (fun _ => 0))), ((u4 1), .inl (cA 0, 24, .inl (fun _ => 0)))] rfl rfl rfl ⟨rfl, rfl⟩ (Nat.le_of_ble_eq_true rfl) rfl dX4_init_57 ?_
  refine ra_aload_n C 0 dX4_init_60 rfl rfl ?_
  refine ra_new C [.int 0, .int 0, .null, .null, .int 0] fc_X8 lk_X4_9 ins_X8 ini_X8 df_X8 (by omega) (by omega) dX4_init_61 (fun q5 => [(q, .inr (4, [.ref q1, .ref q2, .ref q3, .ref q4, .null, .null, .null, .null, .null, .int 0, .int 0])), (q1, .inr (8, [.int (8), .int (3), .ref (u1 0), .ref (u1 1), .int (0)])), ((u1 0), .inl (cA 0, 8, .inl (fun _ => 0))), ((u1 1), .inl (cA 0, 24, .inl (fun _ => 0))), (q2, .inr (8, [.int (12), .int (2), .ref (u2 0), .ref (u2 1), .int (0)])), ((u2 0), .inl (cA 0, 12, .inl (fun _ => 0))), ((u2 1), .inl (cA 0, 24, .inl (fun _ => 0))), (q3, .inr (8, [.int (6), .int (2), .ref (u3 0), .ref (u3 1), .int (0)])), ((u3 0), .inl (cA 0, 6, .inl (fun _ => 0))), ((u3 1), .inl (cA 0, 12, .inl (fun _ => 0))), (q4, .inr (8, [.int (8), .int (3), .ref (u4 0), .ref (u4 1), .int (0)])), ((u4 0), .inl (cA 0, 8, .inl (fun _ => 0))), ((u4 1), .inl (cA 0, 24, .inl (fun _ => 0))), (q5, .inr (8, [.int 0, .int 0, .null, .null, .int 0]))]) (fun _ => rfl) (fun q5 => ?_)
  refine ra_dup C dX4_init_64 rfl ?_
  refine ra_iconst C dX4_init_65 kic_4 ?_
  refine ra_iconst C dX4_init_66 kic_1 ?_
  refine ra_ctor C (n := 2) [.int (4), .int (1)] [.ref q5, .ref q] 13 [0, 1, 2, 3, 4, 5, 6, 7, 8, 9, 10, 11, 12] [(q, .inr (4, [.ref q1, .ref q2, .ref q3, .ref q4, .null, .null, .null, .null, .null, .int 0, .int 0])), (q1, .inr (8, [.int (8), .int (3), .ref (u1 0), .ref (u1 1), .int (0)])), ((u1 0), .inl (cA 0, 8, .inl (fun _ => 0))), ((u1 1), .inl (cA 0, 24, .inl (fun _ => 0))), (q2, .inr (8, [.int (12), .int (2), .ref (u2 0), .ref (u2 1), .int (0)])), ((u2 0), .inl (cA 0, 12, .inl (fun _ => 0))), ((u2 1), .inl (cA 0, 24, .inl (fun _ => 0))), (q3, .inr (8, [.int (6), .int (2), .ref (u3 0), .ref (u3 1), .int (0)])), ((u3 0), .inl (cA 0, 6, .inl (fun _ => 0))), ((u3 1), .inl (cA 0, 12, .inl (fun _ => 0))), (q4, .inr (8, [.int (8), .int (3), .ref (u4 0), .ref (u4 1), .int (0)])), ((u4 0), .inl (cA 0, 8, .inl (fun _ => 0))), ((u4 1), .inl (cA 0, 24, .inl (fun _ => 0)))] (c_X8_init z.l D cA q5 (4) (1) 4 4 (by decide) (by decide) (by decide) (by decide) (by decide) (by decide)) (fun _ _ _ _ _ => trivial) (fun _ _ _ _ _ _ _ => trivial) cd_X8_init im_X8_init ini_X8 lk_X4_11 ⟨rfl, by decide +kernel, by decide +kernel, by decide +kernel⟩ rfl rfl rfl (by decide) (by decide) rfl (Nat.le_of_ble_eq_true rfl) ⟨Nat.le_of_ble_eq_true rfl, Nat.le_of_ble_eq_true rfl⟩ ⟨by omega, by omega⟩ dX4_init_67 (fun u5 => [(q, .inr (4, [.ref q1, .ref q2, .ref q3, .ref q4, .null, .null, .null, .null, .null, .int 0, .int 0])), (q1, .inr (8, [.int (8), .int (3), .ref (u1 0), .ref (u1 1), .int (0)])), ((u1 0), .inl (cA 0, 8, .inl (fun _ => 0))), ((u1 1), .inl (cA 0, 24, .inl (fun _ => 0))), (q2, .inr (8, [.int (12), .int (2), .ref (u2 0), .ref (u2 1), .int (0)])), ((u2 0), .inl (cA 0, 12, .inl (fun _ => 0))), ((u2 1), .inl (cA 0, 24, .inl (fun _ => 0))), (q3, .inr (8, [.int (6), .int (2), .ref (u3 0), .ref (u3 1), .int (0)])), ((u3 0), .inl (cA 0, 6, .inl (fun _ => 0))), ((u3 1), .inl (cA 0, 12, .inl (fun _ => 0))), (q4, .inr (8, [.int (8), .int (3), .ref (u4 0), .ref (u4 1), .int (0)])), ((u4 0), .inl (cA 0, 8, .inl (fun _ => 0))), ((u4 1), .inl (cA 0, 24, .inl (fun _ => 0))), (q5, .inr (8, [.int (4), .int (1), .ref (u5 0), .ref (u5 1), .int (0)])), ((u5 0), .inl (cA 0, 4, .inl (fun _ => 0))), ((u5 1), .inl (cA 0, 4, .inl (fun _ => 0)))]) (fun _ => rfl) (fun u5 => ?_)
  refine ra_putF C (k := 4) 0 rfl fc_X4 (by decide) lk_X4_29 [(q, .inr (4, [.ref q1, .ref q2, .ref q3, .ref q4, .ref q5, .null, .null, .null, .null, .int 0, .int 0])), (q1, .inr (8, [.int (8), .int (3), .ref (u1 0), .ref (u1 1), .int (0)])), ((u1 0), .inl (cA 0, 8, .inl (fun _ => 0))), ((u1 1), .inl (cA 0, 24, .inl (fun _ => 0))), (q2, .inr (8, [.int (12), .int (2), .ref (u2 0), .ref (u2 1), .int (0)])), ((u2 0), .inl (cA 0, 12, .inl (fun _ => 0))), ((u2 1), .inl (cA 0, 24, .inl (fun _ => 0))), (q3, .inr (8, [.int (6), .int (2), .ref (u3 0), .ref (u3 1), .int (0)])), ((u3 0), .inl (cA 0, 6, .inl (fun _ => 0))), ((u3 1), .inl (cA 0, 12, .inl (fun _ => 0))), (q4, .inr (8, [.int (8), .int (3), .ref (u4 0), .ref (u4 1), .int (0)])), ((u4 0), .inl (cA 0, 8, .inl (fun _ => 0))), ((u4 1), .inl (cA 0, 24, .inl (fun _ => 0))), (q5, .inr (8, [.int (4), .int (1), .ref (u5 0), .ref (u5 1), .int (0)])), ((u5 0), .inl (cA 0, 4, .inl (fun _ => 0))), ((u5 1), .inl (cA 0, 4, .inl (fun _ => 0)))] rfl rfl rfl ⟨rfl, rfl⟩ (Nat.le_of_ble_eq_true rfl) rfl dX4_init_70 ?_
  refine ra_aload_n C 0 dX4_init_73 rfl rfl ?_
  refine ra_bipush C dX4_init_74 kbp_26 ?_
  refine ra_newI C 26 (by decide) (by decide) (by decide) (by omega) (by omega) dX4_init_76 (fun q6 => [(q, .inr (4, [.ref q1, .ref q2, .ref q3, .ref q4, .ref q5, .null, .null, .null, .null, .int 0, .int 0])), (q1, .inr (8, [.int (8), .int (3), .ref (u1 0), .ref (u1 1), .int (0)])), ((u1 0), .inl (cA 0, 8, .inl (fun _ => 0))), ((u1 1), .inl (cA 0, 24, .inl (fun _ => 0))), (q2, .inr (8, [.int (12), .int (2), .ref (u2 0), .ref (u2 1), .int (0)])), ((u2 0), .inl (cA 0, 12, .inl (fun _ => 0))), ((u2 1), .inl (cA 0, 24, .inl (fun _ => 0))), (q3, .inr (8, [.int (6), .int (2), .ref (u3 0), .ref (u3 1), .int (0)])), ((u3 0), .inl (cA 0, 6, .inl (fun _ => 0))), ((u3 1), .inl (cA 0, 12, .inl (fun _ => 0))), (q4, .inr (8, [.int (8), .int (3), .ref (u4 0), .ref (u4 1), .int (0)])), ((u4 0), .inl (cA 0, 8, .inl (fun _ => 0))), ((u4 1), .inl (cA 0, 24, .inl (fun _ => 0))), (q5, .inr (8, [.int (4), .int (1), .ref (u5 0), .ref (u5 1), .int (0)])), ((u5 0), .inl (cA 0, 4, .inl (fun _ => 0))), ((u5 1), .inl (cA 0, 4, .inl (fun _ => 0))), (q6, .inl (cA 0, 26, .inl (fun _ => 0)))]) (fun _ => rfl) (fun q6 => ?_)
  refine ra_putF C (k := 5) 0 rfl fc_X4 (by decide) lk_X4_32 [(q, .inr (4, [.ref q1, .ref q2, .ref q3, .ref q4, .ref q5, .ref q6, .null, .null, .null, .int 0, .int 0])), (q1, .inr (8, [.int (8), .int (3), .ref (u1 0), .ref (u1 1), .int (0)])), ((u1 0), .inl (cA 0, 8, .inl (fun _ => 0))), ((u1 1), .inl (cA 0, 24, .inl (fun _ => 0))), (q2, .inr (8, [.int (12), .int (2), .ref (u2 0), .ref (u2 1), .int (0)])), ((u2 0), .inl (cA 0, 12, .inl (fun _ => 0))), ((u2 1), .inl (cA 0, 24, .inl (fun _ => 0))), (q3, .inr (8, [.int (6), .int (2), .ref (u3 0), .ref (u3 1), .int (0)])), ((u3 0), .inl (cA 0, 6, .inl (fun _ => 0))), ((u3 1), .inl (cA 0, 12, .inl (fun _ => 0))), (q4, .inr (8, [.int (8), .int (3), .ref (u4 0), .ref (u4 1), .int (0)])), ((u4 0), .inl (cA 0, 8, .inl (fun _ => 0))), ((u4 1), .inl (cA 0, 24, .inl (fun _ => 0))), (q5, .inr (8, [.int (4), .int (1), .ref (u5 0), .ref (u5 1), .int (0)])), ((u5 0), .inl (cA 0, 4, .inl (fun _ => 0))), ((u5 1), .inl (cA 0, 4, .inl (fun _ => 0))), (q6, .inl (cA 0, 26, .inl (fun _ => 0)))] rfl rfl rfl ⟨rfl, rfl⟩ (Nat.le_of_ble_eq_true rfl) rfl dX4_init_78 ?_
  refine ra_aload_n C 0 dX4_init_81 rfl rfl ?_
  refine ra_bipush C dX4_init_82 kbp_26 ?_
  refine ra_newI C 26 (by decide) (by decide) (by decide) (by omega) (by omega) dX4_init_84 (fun q7 => [(q, .inr (4, [.ref q1, .ref q2, .ref q3, .ref q4, .ref q5, .ref q6, .null, .null, .null, .int 0, .int 0])), (q1, .inr (8, [.int (8), .int (3), .ref (u1 0), .ref (u1 1), .int (0)])), ((u1 0), .inl (cA 0, 8, .inl (fun _ => 0))), ((u1 1), .inl (cA 0, 24, .inl (fun _ => 0))), (q2, .inr (8, [.int (12), .int (2), .ref (u2 0), .ref (u2 1), .int (0)])), ((u2 0), .inl (cA 0, 12, .inl (fun _ => 0))), ((u2 1), .inl (cA 0, 24, .inl (fun _ => 0))), (q3, .inr (8, [.int (6), .int (2), .ref (u3 0), .ref (u3 1), .int (0)])), ((u3 0), .inl (cA 0, 6, .inl (fun _ => 0))), ((u3 1), .inl (cA 0, 12, .inl (fun _ => 0))), (q4, .inr (8, [.int (8), .int (3), .ref (u4 0), .ref (u4 1), .int (0)])), ((u4 0), .inl (cA 0, 8, .inl (fun _ => 0))), ((u4 1), .inl (cA 0, 24, .inl (fun _ => 0))), (q5, .inr (8, [.int (4), .int (1), .ref (u5 0), .ref (u5 1), .int (0)])), ((u5 0), .inl (cA 0, 4, .inl (fun _ => 0))), ((u5 1), .inl (cA 0, 4, .inl (fun _ => 0))), (q6, .inl (cA 0, 26, .inl (fun _ => 0))), (q7, .inl (cA 0, 26, .inl (fun _ => 0)))]) (fun _ => rfl) (fun q7 => ?_)
  refine ra_putF C (k := 6) 0 rfl fc_X4 (by decide) lk_X4_36 [(q, .inr (4, [.ref q1, .ref q2, .ref q3, .ref q4, .ref q5, .ref q6, .ref q7, .null, .null, .int 0, .int 0])), (q1, .inr (8, [.int (8), .int (3), .ref (u1 0), .ref (u1 1), .int (0)])), ((u1 0), .inl (cA 0, 8, .inl (fun _ => 0))), ((u1 1), .inl (cA 0, 24, .inl (fun _ => 0))), (q2, .inr (8, [.int (12), .int (2), .ref (u2 0), .ref (u2 1), .int (0)])), ((u2 0), .inl (cA 0, 12, .inl (fun _ => 0))), ((u2 1), .inl (cA 0, 24, .inl (fun _ => 0))), (q3, .inr (8, [.int (6), .int (2), .ref (u3 0), .ref (u3 1), .int (0)])), ((u3 0), .inl (cA 0, 6, .inl (fun _ => 0))), ((u3 1), .inl (cA 0, 12, .inl (fun _ => 0))), (q4, .inr (8, [.int (8), .int (3), .ref (u4 0), .ref (u4 1), .int (0)])), ((u4 0), .inl (cA 0, 8, .inl (fun _ => 0))), ((u4 1), .inl (cA 0, 24, .inl (fun _ => 0))), (q5, .inr (8, [.int (4), .int (1), .ref (u5 0), .ref (u5 1), .int (0)])), ((u5 0), .inl (cA 0, 4, .inl (fun _ => 0))), ((u5 1), .inl (cA 0, 4, .inl (fun _ => 0))), (q6, .inl (cA 0, 26, .inl (fun _ => 0))), (q7, .inl (cA 0, 26, .inl (fun _ => 0)))] rfl rfl rfl ⟨rfl, rfl⟩ (Nat.le_of_ble_eq_true rfl) rfl dX4_init_86 ?_
  refine ra_aload_n C 0 dX4_init_89 rfl rfl ?_
  refine ra_bipush C dX4_init_90 kbp_8 ?_
  refine ra_newI C 8 (by decide) (by decide) (by decide) (by omega) (by omega) dX4_init_92 (fun q8 => [(q, .inr (4, [.ref q1, .ref q2, .ref q3, .ref q4, .ref q5, .ref q6, .ref q7, .null, .null, .int 0, .int 0])), (q1, .inr (8, [.int (8), .int (3), .ref (u1 0), .ref (u1 1), .int (0)])), ((u1 0), .inl (cA 0, 8, .inl (fun _ => 0))), ((u1 1), .inl (cA 0, 24, .inl (fun _ => 0))), (q2, .inr (8, [.int (12), .int (2), .ref (u2 0), .ref (u2 1), .int (0)])), ((u2 0), .inl (cA 0, 12, .inl (fun _ => 0))), ((u2 1), .inl (cA 0, 24, .inl (fun _ => 0))), (q3, .inr (8, [.int (6), .int (2), .ref (u3 0), .ref (u3 1), .int (0)])), ((u3 0), .inl (cA 0, 6, .inl (fun _ => 0))), ((u3 1), .inl (cA 0, 12, .inl (fun _ => 0))), (q4, .inr (8, [.int (8), .int (3), .ref (u4 0), .ref (u4 1), .int (0)])), ((u4 0), .inl (cA 0, 8, .inl (fun _ => 0))), ((u4 1), .inl (cA 0, 24, .inl (fun _ => 0))), (q5, .inr (8, [.int (4), .int (1), .ref (u5 0), .ref (u5 1), .int (0)])), ((u5 0), .inl (cA 0, 4, .inl (fun _ => 0))), ((u5 1), .inl (cA 0, 4, .inl (fun _ => 0))), (q6, .inl (cA 0, 26, .inl (fun _ => 0))), (q7, .inl (cA 0, 26, .inl (fun _ => 0))), (q8, .inl (cA 0, 8, .inl (fun _ => 0)))]) (fun _ => rfl) (fun q8 => ?_)
  refine ra_putF C (k := 7) 0 rfl fc_X4 (by decide) lk_X4_39 [(q, .inr (4, [.ref q1, .ref q2, .ref q3, .ref q4, .ref q5, .ref q6, .ref q7, .ref q8, .null, .int 0, .int 0])), (q1, .inr (8, [.int (8), .int (3), .ref (u1 0), .ref (u1 1), .int (0)])), ((u1 0), .inl (cA 0, 8, .inl (fun _ => 0))), ((u1 1), .inl (cA 0, 24, .inl (fun _ => 0))), (q2, .inr (8, [.int (12), .int (2), .ref (u2 0), .ref (u2 1), .int (0)])), ((u2 0), .inl (cA 0, 12, .inl (fun _ => 0))), ((u2 1), .inl (cA 0, 24, .inl (fun _ => 0))), (q3, .inr (8, [.int (6), .int (2), .ref (u3 0), .ref (u3 1), .int (0)])), ((u3 0), .inl (cA 0, 6, .inl (fun _ => 0))), ((u3 1), .inl (cA 0, 12, .inl (fun _ => 0))), (q4, .inr (8, [.int (8), .int (3), .ref (u4 0), .ref (u4 1), .int (0)])), ((u4 0), .inl (cA 0, 8, .inl (fun _ => 0))), ((u4 1), .inl (cA 0, 24, .inl (fun _ => 0))), (q5, .inr (8, [.int (4), .int (1), .ref (u5 0), .ref (u5 1), .int (0)])), ((u5 0), .inl (cA 0, 4, .inl (fun _ => 0))), ((u5 1), .inl (cA 0, 4, .inl (fun _ => 0))), (q6, .inl (cA 0, 26, .inl (fun _ => 0))), (q7, .inl (cA 0, 26, .inl (fun _ => 0))), (q8, .inl (cA 0, 8, .inl (fun _ => 0)))] rfl rfl rfl ⟨rfl, rfl⟩ (Nat.le_of_ble_eq_true rfl) rfl dX4_init_94 ?_
  refine ra_aload_n C 0 dX4_init_97 rfl rfl ?_
  refine ra_sipush C dX4_init_98 ksp_1600 ?_
  refine ra_newI C 1600 (by decide) (by decide) (by decide) (by omega) (by omega) dX4_init_101 (fun q9 => [(q, .inr (4, [.ref q1, .ref q2, .ref q3, .ref q4, .ref q5, .ref q6, .ref q7, .ref q8, .null, .int 0, .int 0])), (q1, .inr (8, [.int (8), .int (3), .ref (u1 0), .ref (u1 1), .int (0)])), ((u1 0), .inl (cA 0, 8, .inl (fun _ => 0))), ((u1 1), .inl (cA 0, 24, .inl (fun _ => 0))), (q2, .inr (8, [.int (12), .int (2), .ref (u2 0), .ref (u2 1), .int (0)])), ((u2 0), .inl (cA 0, 12, .inl (fun _ => 0))), ((u2 1), .inl (cA 0, 24, .inl (fun _ => 0))), (q3, .inr (8, [.int (6), .int (2), .ref (u3 0), .ref (u3 1), .int (0)])), ((u3 0), .inl (cA 0, 6, .inl (fun _ => 0))), ((u3 1), .inl (cA 0, 12, .inl (fun _ => 0))), (q4, .inr (8, [.int (8), .int (3), .ref (u4 0), .ref (u4 1), .int (0)])), ((u4 0), .inl (cA 0, 8, .inl (fun _ => 0))), ((u4 1), .inl (cA 0, 24, .inl (fun _ => 0))), (q5, .inr (8, [.int (4), .int (1), .ref (u5 0), .ref (u5 1), .int (0)])), ((u5 0), .inl (cA 0, 4, .inl (fun _ => 0))), ((u5 1), .inl (cA 0, 4, .inl (fun _ => 0))), (q6, .inl (cA 0, 26, .inl (fun _ => 0))), (q7, .inl (cA 0, 26, .inl (fun _ => 0))), (q8, .inl (cA 0, 8, .inl (fun _ => 0))), (q9, .inl (cA 0, 1600, .inl (fun _ => 0)))]) (fun _ => rfl) (fun q9 => ?_)
  refine ra_putF C (k := 8) 0 rfl fc_X4 (by decide) lk_X4_42 [(q, .inr (4, [.ref q1, .ref q2, .ref q3, .ref q4, .ref q5, .ref q6, .ref q7, .ref q8, .ref q9, .int 0, .int 0])), (q1, .inr (8, [.int (8), .int (3), .ref (u1 0), .ref (u1 1), .int (0)])), ((u1 0), .inl (cA 0, 8, .inl (fun _ => 0))), ((u1 1), .inl (cA 0, 24, .inl (fun _ => 0))), (q2, .inr (8, [.int (12), .int (2), .ref (u2 0), .ref (u2 1), .int (0)])), ((u2 0), .inl (cA 0, 12, .inl (fun _ => 0))), ((u2 1), .inl (cA 0, 24, .inl (fun _ => 0))), (q3, .inr (8, [.int (6), .int (2), .ref (u3 0), .ref (u3 1), .int (0)])), ((u3 0), .inl (cA 0, 6, .inl (fun _ => 0))), ((u3 1), .inl (cA 0, 12, .inl (fun _ => 0))), (q4, .inr (8, [.int (8), .int (3), .ref (u4 0), .ref (u4 1), .int (0)])), ((u4 0), .inl (cA 0, 8, .inl (fun _ => 0))), ((u4 1), .inl (cA 0, 24, .inl (fun _ => 0))), (q5, .inr (8, [.int (4), .int (1), .ref (u5 0), .ref (u5 1), .int (0)])), ((u5 0), .inl (cA 0, 4, .inl (fun _ => 0))), ((u5 1), .inl (cA 0, 4, .inl (fun _ => 0))), (q6, .inl (cA 0, 26, .inl (fun _ => 0))), (q7, .inl (cA 0, 26, .inl (fun _ => 0))), (q8, .inl (cA 0, 8, .inl (fun _ => 0))), (q9, .inl (cA 0, 1600, .inl (fun _ => 0)))] rfl rfl rfl ⟨rfl, rfl⟩ (Nat.le_of_ble_eq_true rfl) rfl dX4_init_103 ?_
  refine ra_aload_n C 0 dX4_init_106 rfl rfl ?_
  refine ra_get C (k := 5) 0 rfl fc_X4 (by decide) lk_X4_32 rfl dX4_init_107 ?_
  refine ra_bipush C dX4_init_110 kbp_10 ?_
  refine ra_fill C 16 rfl lk_X4_45 ⟨by omega, by omega⟩ ⟨Nat.le_of_ble_eq_true rfl, Nat.le_of_ble_eq_true rfl⟩ dX4_init_112 [(q, .inr (4, [.ref q1, .ref q2, .ref q3, .ref q4, .ref q5, .ref q6, .ref q7, .ref q8, .ref q9, .int 0, .int 0])), (q1, .inr (8, [.int (8), .int (3), .ref (u1 0), .ref (u1 1), .int (0)])), ((u1 0), .inl (cA 0, 8, .inl (fun _ => 0))), ((u1 1), .inl (cA 0, 24, .inl (fun _ => 0))), (q2, .inr (8, [.int (12), .int (2), .ref (u2 0), .ref (u2 1), .int (0)])), ((u2 0), .inl (cA 0, 12, .inl (fun _ => 0))), ((u2 1), .inl (cA 0, 24, .inl (fun _ => 0))), (q3, .inr (8, [.int (6), .int (2), .ref (u3 0), .ref (u3 1), .int (0)])), ((u3 0), .inl (cA 0, 6, .inl (fun _ => 0))), ((u3 1), .inl (cA 0, 12, .inl (fun _ => 0))), (q4, .inr (8, [.int (8), .int (3), .ref (u4 0), .ref (u4 1), .int (0)])), ((u4 0), .inl (cA 0, 8, .inl (fun _ => 0))), ((u4 1), .inl (cA 0, 24, .inl (fun _ => 0))), (q5, .inr (8, [.int (4), .int (1), .ref (u5 0), .ref (u5 1), .int (0)])), ((u5 0), .inl (cA 0, 4, .inl (fun _ => 0))), ((u5 1), .inl (cA 0, 4, .inl (fun _ => 0))), (q6, .inl (cA 0, 26, .inl (fun _ => 10))), (q7, .inl (cA 0, 26, .inl (fun _ => 0))), (q8, .inl (cA 0, 8, .inl (fun _ => 0))), (q9, .inl (cA 0, 1600, .inl (fun _ => 0)))] rfl ?_
  exact ra_vret C (fun k => [q1, (u1 0), (u1 1), q2, (u2 0), (u2 1), q3, (u3 0), (u3 1), q4, (u4 0), (u4 1), q5, (u5 0), (u5 1), q6, q7, q8, q9].getD k 0) [0, 1, 2, 3, 4, 5, 6, 7, 8, 9, 10, 11, 12, 13, 14, 15, 16, 17, 18, 19] rfl rfl (by decide) ⟨by omega, by omega⟩ dX4_init_115
