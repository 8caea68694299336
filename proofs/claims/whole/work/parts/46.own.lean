def owS : Nat → Nat × Nat
  | 0 => (0, 0)
  | i + 1 => if owB.getD i 0 = 32 then ((owS i).1 + 1, 0) else ((owS i).1, (owS i).2 + 1)
def owN : Nat → Nat → Int32
  | 0 => fun _ => 0
  | i + 1 => if owB.getD i 0 = 32 then owN i else upd (owN i) (owS i).1 (owN i (owS i).1 ||| ((owB.getD i 0 - 97 + 1) <<< ((nI (owS i).2 * 5) &&& 31)))
theorem owS_b : ∀ i, i < 119 → (owS i).1 < 23 ∧ (owS i).2 ≤ 6 := by decide +kernel
section RAo
variable {D : va_G} {cA : Nat → ClassId} {z : Cz} {own : String} {cc : ByteArray} {nL : Nat} {A : Nat → Prop} {fr mc ms lo : Nat} {nm : String} {rt : Option FieldType} {ce sl : Nat} {Q : State → Prop} {ws : va_W} {pc : Nat} {lv : List (Nat × Value)} {st : List Value} {a v B : Nat}
theorem ra_isub (C : CA D cA z own cc nL A fr mc ms lo nm rt) {x y : Int32} (hd : decode cc pc = .ok (.isub, 1)) (k : RA D z nL A ce sl Q ws (pc + 1) lv (.int (x - y) :: st)) : RA D z nL A ce sl Q ws pc lv (.int y :: .int x :: st) := fun H locs ls hP hD hS hl => lv_isub C.exec C.code hd (k H locs ls hP hD hS hl)
theorem ra_iadd (C : CA D cA z own cc nL A fr mc ms lo nm rt) {x y : Int32} (hd : decode cc pc = .ok (.iadd, 1)) (k : RA D z nL A ce sl Q ws (pc + 1) lv (.int (x + y) :: st)) : RA D z nL A ce sl Q ws pc lv (.int y :: .int x :: st) := fun H locs ls hP hD hS hl => lv_iadd C.exec C.code hd (k H locs ls hP hD hS hl)
theorem ra_ishl (C : CA D cA z own cc nL A fr mc ms lo nm rt) {x y : Int32} (hd : decode cc pc = .ok (.ishl, 1)) (k : RA D z nL A ce sl Q ws (pc + 1) lv (.int (x <<< (y &&& 31)) :: st)) : RA D z nL A ce sl Q ws pc lv (.int y :: .int x :: st) := fun H locs ls hP hD hS hl => lv_ishl C.exec C.code hd (k H locs ls hP hD hS hl)
theorem ra_ior (C : CA D cA z own cc nL A fr mc ms lo nm rt) {x y : Int32} (hd : decode cc pc = .ok (.ior, 1)) (k : RA D z nL A ce sl Q ws (pc + 1) lv (.int (x ||| y) :: st)) : RA D z nL A ce sl Q ws pc lv (.int y :: .int x :: st) := fun H locs ls hP hD hS hl => lv_ior C.exec C.code hd (k H locs ls hP hD hS hl)
theorem ra_dup2 (C : CA D cA z own cc nL A fr mc ms lo nm rt) {va vb : Value} (hd : decode cc pc = .ok (.dup2, 1)) (h1 : va.category = 1) (h2 : vb.category = 1) (k : RA D z nL A ce sl Q ws (pc + 1) lv (va :: vb :: va :: vb :: st)) : RA D z nL A ce sl Q ws pc lv (va :: vb :: st) := fun H locs ls hP hD hS hl => lv_dup2_11 C.exec C.code hd h1 h2 (k H locs ls hP hD hS hl)
theorem ra_iload (C : CA D cA z own cc nL A fr mc ms lo nm rt) {j : Nat} {x : Int32} (k0 : Nat) (hd : decode cc pc = .ok (.iload j, 2)) (hk : lv[k0]? = some (j, .int x)) (k : RA D z nL A ce sl Q ws (pc + 2) lv (.int x :: st)) : RA D z nL A ce sl Q ws pc lv st := fun H locs ls hP hD hS hl => lv_iload C.exec C.code hd (lv_at hl k0 hk) (k H locs ls hP hD hS hl)
theorem ra_istore (C : CA D cA z own cc nL A fr mc ms lo nm rt) {j : Nat} {x : Int32} (lv' : List (Nat × Value)) (hd : decode cc pc = .ok (.istore j, 2)) (hn : j < nL) (hl' : (j, Value.int x) :: lv.filter (fun q => !(q.1 == j) && !(q.1 + 1 == j && q.2.category == 2)) = lv') (k : RA D z nL A ce sl Q ws (pc + 2) lv' st) : RA D z nL A ce sl Q ws pc lv (.int x :: st) := fun H locs ls hP hD hS hl => lv_istore C.exec C.code hd hl hn hl' (fun ls hl => k H locs ls hP hD hS hl)
theorem ra_ne (C : CA D cA z own cc nL A fr mc ms lo nm rt) {x y : Int32} {off : Int} {tgt : Nat} (hd : decode cc pc = .ok (.if_icmp .ne off, 3)) (ht : (pc : Int) + off = (tgt : Int)) (kt : ¬ x = y → RA D z nL A ce sl Q ws tgt lv st) (kf : x = y → RA D z nL A ce sl Q ws (pc + 3) lv st) : RA D z nL A ce sl Q ws pc lv (.int y :: .int x :: st) := fun H locs ls hP hD hS hl => lv_icmp_ne C.exec C.code hd ht (fun h => kt h H locs ls hP hD hS hl) (fun h => kf h H locs ls hP hD hS hl)
theorem ra_iald (C : CA D cA z own cc nL A fr mc ms lo nm rt) {q n : Nat} {f : Nat → Int32} (p0 : Nat) {i : Int32} (he : ws[p0]? = some (q, .inl (cA 0, n, .inl f))) (hin : vp_in i n) (hd : decode cc pc = .ok (.iaload, 1)) (kk : RA D z nL A ce sl Q ws (pc + 1) lv (.int (f i.toNatClampNeg) :: st)) : RA D z nL A ce sl Q ws pc lv (.int i :: .ref q :: st) := fun H locs ls hP hD hS hl => va_iald C.exec C.code C.K hP p0 0 he rfl hin hd (kk H locs ls hP hD hS hl)
theorem ra_ldcS (C : CA D cA z own cc nL A fr mc ms lo nm rt) {index q : Nat} {tx : String} (hZ : vk_R own index tx q z.s) (hd : decode cc pc = .ok (.ldc index, 2)) (k : RA D z nL A ce sl Q ws (pc + 2) lv (.ref q :: st)) : RA D z nL A ce sl Q ws pc lv st := fun H locs ls hP hD hS hl => va_ldcS C.exec C.code C.ow hZ hd (k H locs ls hP hD hS hl)
/-- a call of a method that reads the text alone -/
theorem ra_str (C : CA D cA z own cc nL A fr mc ms lo nm rt) (hsg : SG a v B z.s) (hAB : ∀ q, A q → B ≤ q) {y : MethodName} {bytes : ByteArray} {maxL n idx fr1 lo1 : Nat} {ret1 : Option FieldType} {r1 : Int32} (As rest : List Value) {stk : List Value} (hM : ST z.l y bytes maxL ret1 fr1 lo1 (.ref a :: As) a v B (some (.int r1))) (mf : MV y bytes maxL ret1 n) (hyc : y.cls = "java/lang/String") (hlk : Cond.methodLink own idx y ∈ tbG) (hn : As.length = n) (hst : stk = As.reverse ++ .ref a :: rest) (hcat : (rest.map fun v => v.category).sum ≤ 8) (hR : fr1 + 1 ≤ fr ∧ 8 + (maxL + 11) + lo1 ≤ lo) (hc : ce ≤ mc ∧ sl ≤ ms) (hd : decode cc pc = .ok (.invokevirtual idx, 3))
    (kk : RA D z nL A ce sl Q ws (pc + 3) lv (.int r1 :: rest)) : RA D z nL A ce sl Q ws pc lv stk := fun H locs ls hP hD hS hl => by
  have hg := rs_good mf hlk
  obtain ⟨m1, m2, m3, m4, m5, m6, m7⟩ := mf
  have hk : ∀ q : Nat, q < z.s.heap.size → ¬ Bq B q → H[q]? = z.s.heap[q]? := fun q h1 h2 => hS.2.1 q h1 (fun h => h2 (hAB q h))
  have hrc : ∃ cellB : Cell, H[a]? = some cellB ∧ cellB.vm.isStatics = false ∧ z.s.vm.findClass y.cls = some cellB.cls := by
    obtain ⟨cell, h1, h2, h3, -⟩ := hsg.2.1.kept hk
    exact ⟨cell, h1, h2, by rw [hyc]; exact h3⟩
  intro T hT X
  obtain ⟨v1, st₀, t, T', L, h0, X', hL, e1, e2, ⟨hv, hh⟩, st⟩ := va_runV (rest := rest) (As := As) ⟨C.exec, C.code, C.maxl, C.ow, C.hts⟩ hM (cwV n C.hts hg rfl rfl rfl ⟨rfl, m5, m6, m7⟩ (by rw [C.room]; exact hR)) ⟨sg_blind, hrc, fun U hU hW => ⟨rfl, hsg.go hW (fun q h1 h2 => by rw [hU]; exact hk q h1 h2)⟩⟩ rfl hn hl.1 hst (lv_room hcat) hd (by rw [C.room]; exact hc) T hT X
  cases hv
  have hL0 : L = [] := by
    cases L with
    | nil => rfl
    | cons q L => exact (hL q List.mem_cons_self).elim
  subst hL0
  rw [List.append_nil] at X'
  obtain ⟨t2, a1, b1⟩ := kk H locs ls hP hD hS hl T' (by rw [e1, hh]; exact h0) X'
  exact ⟨t2, st t2 a1, b1⟩
end RAo
set_option maxRecDepth 100000 in
set_option maxHeartbeats 4000000 in
theorem own_loop {D : va_G} {cA : Nat → ClassId} {z : Cz} {A : Nat → Prop} {mc ms : Nat} {ce sl : Nat} {Q : State → Prop} {a v B q r1 qa : Nat} (C : CA D cA z RX6 cX6_fillOwnNames 5 A 4 mc ms 85 "fillOwnNames") (hsg : SG a v B z.s) (hAB : ∀ q, A q → B ≤ q) (hc : ce ≤ mc ∧ sl ≤ ms) :
    ∀ (n i : Nat) (lv : List (Nat × Value)), i ≤ 119 → 120 ≤ n + i → lv = [(3, .int (nI i)), (2, .int (nI (owS i).2)), (1, .int (nI (owS i).1)), (0, .ref q)] → RA D z 5 A ce sl Q [(q, .inr (6, [.ref r1, .ref qa, .int 0, .int 0, .int 0, .int 0, .int 0, .int 0, .int 0, .int 0])), (qa, .inl (cA 0, 23, .inl (owN 119)))] 73 [(0, .ref q)] [] → RA D z 5 A ce sl Q [(q, .inr (6, [.ref r1, .ref qa, .int 0, .int 0, .int 0, .int 0, .int 0, .int 0, .int 0, .int 0])), (qa, .inl (cA 0, 23, .inl (owN i)))] 6 lv [] := by
  intro n
  induction n with
  | zero => intro i lv h1 h2; exact absurd h2 (by omega)
  | succ n ih =>
    intro i lv h1 h2 hlv kk
    subst hlv
    refine ra_iload_n C 0 dX6_fillOwnNames_6 rfl rfl ?_
    refine ra_ldcS C hsg.1 dX6_fillOwnNames_7 ?_
    refine ra_str C hsg hAB [] [.int (nI i)] (s_length z.l a v B) mvs_J0_length_8abf5 rfl lks_X6_23 rfl rfl (Nat.le_of_ble_eq_true rfl) ⟨Nat.le_of_ble_eq_true rfl, Nat.le_of_ble_eq_true rfl⟩ hc dX6_fillOwnNames_9 ?_
    refine ra_ge C (tgt := 73) dX6_fillOwnNames_12 (by decide) (fun hc1 => ?_) (fun hc1 => ?_)
    · have hi : i = 119 := by
        rcases Nat.lt_or_ge i 119 with h | h
        · exact absurd hc1 (nI_ge (b := 119) h (by omega))
        · omega
      subst hi
      exact RA.loc kk [3] rfl
    · have hi : i < 119 := by
        rcases Nat.lt_or_ge i 119 with h | h
        · exact h
        · have : i = 119 := by omega
          subst this
          exact absurd (show (119 : Int32) ≤ nI 119 by decide) hc1
      obtain ⟨b1, b2⟩ := owS_b i hi
      refine ra_iload_n C 2 dX6_fillOwnNames_15 rfl rfl ?_
      refine ra_bipush C (v := 23) dX6_fillOwnNames_16 (by decide +kernel) ?_
      refine ra_ge C (tgt := 73) dX6_fillOwnNames_18 (by decide) (fun hc2 => absurd hc2 (nI_ge (b := 23) b1 (by omega))) (fun _ => ?_)
      refine ra_ldcS C hsg.1 dX6_fillOwnNames_21 ?_
      refine ra_iload_n C 0 dX6_fillOwnNames_23 rfl rfl ?_
      refine ra_str C hsg hAB [.int (nI i)] [] (s_charAt z.l a v B hi) mvs_J0_charAt_5068e rfl lks_X6_29 rfl rfl (Nat.le_of_ble_eq_true rfl) ⟨Nat.le_of_ble_eq_true rfl, Nat.le_of_ble_eq_true rfl⟩ hc dX6_fillOwnNames_24 ?_
      refine ra_istore C [(4, .int (owB.getD i 0)), (3, .int (nI i)), (2, .int (nI (owS i).2)), (1, .int (nI (owS i).1)), (0, .ref q)] dX6_fillOwnNames_27 (by decide) rfl ?_
      refine ra_iload C 0 dX6_fillOwnNames_29 rfl ?_
      refine ra_bipush C (v := 32) dX6_fillOwnNames_31 (by decide +kernel) ?_
      refine ra_ne C (tgt := 44) dX6_fillOwnNames_33 (by decide) (fun hc3 => ?_) (fun hc3 => ?_)
      · refine ra_aload_n C 4 dX6_fillOwnNames_44 rfl rfl ?_
        refine ra_get C (k := 1) 0 rfl fc_X6 (by decide) lk_X6_15 rfl dX6_fillOwnNames_45 ?_
        refine ra_iload_n C 3 dX6_fillOwnNames_48 rfl rfl ?_
        refine ra_dup2 C dX6_fillOwnNames_49 rfl rfl ?_
        refine ra_iald C 1 rfl (vp_in_nI b1 (by omega)) dX6_fillOwnNames_50 ?_
        refine ra_iload C 0 dX6_fillOwnNames_51 rfl ?_
        refine ra_bipush C (v := 97) dX6_fillOwnNames_53 (by decide +kernel) ?_
        refine ra_isub C dX6_fillOwnNames_55 ?_
        refine ra_iconst C (v := 1) dX6_fillOwnNames_56 (by decide +kernel) ?_
        refine ra_iadd C dX6_fillOwnNames_57 ?_
        refine ra_iload_n C 2 dX6_fillOwnNames_58 rfl rfl ?_
        refine ra_iconst C (v := 5) dX6_fillOwnNames_59 (by decide +kernel) ?_
        refine ra_imul C dX6_fillOwnNames_60 ?_
        refine ra_ishl C dX6_fillOwnNames_61 ?_
        refine ra_ior C dX6_fillOwnNames_62 ?_
        refine ra_iast C 1 rfl (vp_in_nI b1 (by omega)) dX6_fillOwnNames_63 ?_
        have eN : upd (owN i) (nI (owS i).1).toNatClampNeg (owN i (nI (owS i).1).toNatClampNeg ||| ((owB.getD i 0 - 97 + 1) <<< ((nI (owS i).2 * 5) &&& 31))) = owN (i + 1) := by
          rw [nI_clamp (by omega)]
          show _ = if owB.getD i 0 = 32 then _ else _
          rw [if_neg hc3]
        rw [eN]
        have eS : owS (i + 1) = ((owS i).1, (owS i).2 + 1) := by
          show (if owB.getD i 0 = 32 then _ else _) = _
          rw [if_neg hc3]
        refine ra_iinc C (k0 := 2) (v := nI ((owS i).2 + 1)) [(2, .int (nI ((owS i).2 + 1))), (4, .int (owB.getD i 0)), (3, .int (nI i)), (1, .int (nI (owS i).1)), (0, .ref q)] dX6_fillOwnNames_64 rfl (nI_1 _) (by decide) rfl ?_
        refine ra_iinc C (k0 := 2) (v := nI (i + 1)) [(3, .int (nI (i + 1))), (2, .int (nI ((owS i).2 + 1))), (4, .int (owB.getD i 0)), (1, .int (nI (owS i).1)), (0, .ref q)] dX6_fillOwnNames_67 rfl (nI_1 i) (by decide) rfl ?_
        refine ra_goto C (tgt := 6) dX6_fillOwnNames_70 (by decide) ?_
        refine RA.loc (ih (i + 1) _ (by omega) (by omega) rfl kk) [0, 1, 3, 4] ?_
        rw [eS]; rfl
      · have eN : owN (i + 1) = owN i := by
          show (if owB.getD i 0 = 32 then _ else _) = _
          rw [if_pos hc3]
        have eS : owS (i + 1) = ((owS i).1 + 1, 0) := by
          show (if owB.getD i 0 = 32 then _ else _) = _
          rw [if_pos hc3]
        refine ra_iinc C (k0 := 3) (v := nI ((owS i).1 + 1)) [(1, .int (nI ((owS i).1 + 1))), (4, .int (owB.getD i 0)), (3, .int (nI i)), (2, .int (nI (owS i).2)), (0, .ref q)] dX6_fillOwnNames_36 rfl (nI_1 _) (by decide) rfl ?_
        refine ra_iconst C (v := nI 0) dX6_fillOwnNames_39 (by decide +kernel) ?_
        refine ra_istore_n C [(2, .int (nI 0)), (1, .int (nI ((owS i).1 + 1))), (4, .int (owB.getD i 0)), (3, .int (nI i)), (0, .ref q)] dX6_fillOwnNames_40 rfl (by decide) rfl ?_
        refine ra_goto C (tgt := 67) dX6_fillOwnNames_41 (by decide) ?_
        refine ra_iinc C (k0 := 3) (v := nI (i + 1)) [(3, .int (nI (i + 1))), (2, .int (nI 0)), (1, .int (nI ((owS i).1 + 1))), (4, .int (owB.getD i 0)), (0, .ref q)] dX6_fillOwnNames_67 rfl (nI_1 i) (by decide) rfl ?_
        refine ra_goto C (tgt := 6) dX6_fillOwnNames_70 (by decide) ?_
        rw [← eN]
        refine RA.loc (ih (i + 1) _ (by omega) (by omega) rfl kk) [0, 1, 2, 4] ?_
        rw [eS]; rfl
/-- fillOwnNames: the row of own words' numbers -/
def KO (l : Launch) (D : va_G) (cA : Nat → ClassId) (q r1 qa a v B : Nat) : Prop :=
  ∀ sz, B ≤ sz → Met l yX6_fillOwnNames (.code yX6_fillOwnNames cX6_fillOwnNames 5 none :: tbG) { frames := 4, cells := 0, slots := 0, locals := 85 } (va_Pc [.ref q] (fun U => U.heap.size = sz ∧ va_P D clX [(q, .inr (6, [.ref r1, .ref qa, .int 0, .int 0, .int 0, .int 0, .int 0, .int 0, .int 0, .int 0])), (qa, .inl (cA 0, 23, .inl (fun _ => 0)))] U.heap ∧ va_K D clX (tys cA) U ∧ va_D (fun _ => True) [(q, .inr (6, [.ref r1, .ref qa, .int 0, .int 0, .int 0, .int 0, .int 0, .int 0, .int 0, .int 0])), (qa, .inl (cA 0, 23, .inl (fun _ => 0)))] ∧ SG a v B U)) (va_Qv (fun _ : Nat → Nat => True) (fun _ t => va_P D clX [(q, .inr (6, [.ref r1, .ref qa, .int 0, .int 0, .int 0, .int 0, .int 0, .int 0, .int 0, .int 0])), (qa, .inl (cA 0, 23, .inl (owN 119)))] t.heap ∧ va_K D clX (tys cA) t ∧ va_D (va_A [(q, .inr (6, [.ref r1, .ref qa, .int 0, .int 0, .int 0, .int 0, .int 0, .int 0, .int 0, .int 0])), (qa, .inl (cA 0, 23, .inl (fun _ => 0)))] sz) [(q, .inr (6, [.ref r1, .ref qa, .int 0, .int 0, .int 0, .int 0, .int 0, .int 0, .int 0, .int 0])), (qa, .inl (cA 0, 23, .inl (owN 119)))]) (va_A [(q, .inr (6, [.ref r1, .ref qa, .int 0, .int 0, .int 0, .int 0, .int 0, .int 0, .int 0, .int 0])), (qa, .inl (cA 0, 23, .inl (fun _ => 0)))] sz)) 0 0 (va_A [(q, .inr (6, [.ref r1, .ref qa, .int 0, .int 0, .int 0, .int 0, .int 0, .int 0, .int 0, .int 0])), (qa, .inl (cA 0, 23, .inl (fun _ => 0)))] sz)
set_option maxRecDepth 100000 in
set_option maxHeartbeats 4000000 in
theorem ko (l : Launch) (D : va_G) (cA : Nat → ClassId) (q r1 qa a v B : Nat) (hq : B ≤ q) (hqa : B ≤ qa) : KO l D cA q r1 qa a v B := by
  intro sz hsz
  refine Met.ofW (cc := cX6_fillOwnNames) (maxL := 5) (ret := none) rfl rfl ?_
  intro p e2 s m args below meth c s₁ B1 hml hv
  obtain ⟨rfl, hs0, hP, hK, hD0, hsg⟩ := hv
  subst hs0
  have hts := atoms_spec (ws := Cond.code yX6_fillOwnNames cX6_fillOwnNames 5 none :: tbG) B1.pre
  have hl := lv_entry [.ref q] (n := 5) (Nat.le_of_ble_eq_true rfl)
  have hD := hD0.self (sz := s.heap.size)
  rw [lg_entry_eq]
  generalize hAe : va_A [(q, .inr (6, [.ref r1, .ref qa, .int 0, .int 0, .int 0, .int 0, .int 0, .int 0, .int 0, .int 0])), (qa, .inl (cA 0, 23, .inl (fun _ => 0)))] s.heap.size = A at hD ⊢
  have hA : ∀ q : Nat, s.heap.size ≤ q → A q := fun q h => by rw [← hAe]; exact Or.inr h
  have hAB : ∀ w, A w → B ≤ w := by
    intro w h
    rw [← hAe] at h
    rcases h with ⟨k, e, h⟩ | h
    · match k, h with
      | 0, h => cases h; exact hq
      | 1, h => cases h; exact hqa
      | k + 2, h => simp at h
    · omega
  have C : CA D cA (mkz p l e2 { frames := 4, cells := 0, slots := 0, locals := 85 } s m #[Value.ref q] below meth c) RX6 cX6_fillOwnNames 5 A 4 0 0 85 "fillOwnNames" := ⟨B1.exec, B1.bytes, hml, findClass_of_methodNamed B1.named, fun w hw => hts w (List.mem_cons_of_mem _ hw), hK, B1.returns, B1.notSynchronized, (name_of_methodNamed B1.named B1.method).1, rfl, hA⟩
  have key : RA D (mkz p l e2 { frames := 4, cells := 0, slots := 0, locals := 85 } s m #[Value.ref q] below meth c) 5 A 0 0 (MQ below (va_Qv (fun _ : Nat → Nat => True) (fun _ t => va_P D clX [(q, .inr (6, [.ref r1, .ref qa, .int 0, .int 0, .int 0, .int 0, .int 0, .int 0, .int 0, .int 0])), (qa, .inl (cA 0, 23, .inl (owN 119)))] t.heap ∧ va_K D clX (tys cA) t ∧ va_D A [(q, .inr (6, [.ref r1, .ref qa, .int 0, .int 0, .int 0, .int 0, .int 0, .int 0, .int 0, .int 0])), (qa, .inl (cA 0, 23, .inl (owN 119)))]) A) #[Value.ref q] s 0 0 A) [(q, .inr (6, [.ref r1, .ref qa, .int 0, .int 0, .int 0, .int 0, .int 0, .int 0, .int 0, .int 0])), (qa, .inl (cA 0, 23, .inl (fun _ => 0)))] 0 [(0, .ref q)] [] := by
    refine ra_iconst C (v := nI 0) dX6_fillOwnNames_0 (by decide +kernel) ?_
    refine ra_istore_n C [(1, .int (nI 0)), (0, .ref q)] dX6_fillOwnNames_1 rfl (by decide) rfl ?_
    refine ra_iconst C (v := nI 0) dX6_fillOwnNames_2 (by decide +kernel) ?_
    refine ra_istore_n C [(2, .int (nI 0)), (1, .int (nI 0)), (0, .ref q)] dX6_fillOwnNames_3 rfl (by decide) rfl ?_
    refine ra_iconst C (v := nI 0) dX6_fillOwnNames_4 (by decide +kernel) ?_
    refine ra_istore_n C [(3, .int (nI 0)), (2, .int (nI 0)), (1, .int (nI 0)), (0, .ref q)] dX6_fillOwnNames_5 rfl (by decide) rfl ?_
    refine own_loop (r1 := r1) (qa := qa) C hsg hAB ⟨Nat.le_refl _, Nat.le_refl _⟩ 120 0 _ (by omega) (by omega) rfl ?_
    intro H locs ls hP hD hS hl
    exact W.vret (hlocks := C.lk) C.exec C.code C.rtn (fun t ht hW => ⟨⟨fun _ => 0, rfl, trivial, by rw [ht]; exact hP, va_K.moved hW.alike C.K, hD⟩, hS.F ht⟩) hS.2.2 dX6_fillOwnNames_73
  exact key s.heap [] _ hP hD va_S.rf hl
