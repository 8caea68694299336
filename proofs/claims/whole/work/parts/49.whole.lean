theorem el_mem : ∀ j, j < 119 → Cond.eq (.elem (.field (.string RX6 21) "java/lang/String" "value" "[B") (.int (Int32.ofNat j))) (.int (owB.getD j 0)) ∈ flatC (Jvm.Cond.and given_1 narrow_1) := by decide +kernel
theorem ra_astore_n {D : va_G} {cA : Nat → ClassId} {z : Cz} {own : String} {cc : ByteArray} {nL : Nat} {A : Nat → Prop} {fr mc ms lo : Nat} {nm : String} {rt : Option FieldType} {ce sl : Nat} {Q : State → Prop} {ws : va_W} {pc : Nat} {lv : List (Nat × Value)} {st : List Value} (C : CA D cA z own cc nL A fr mc ms lo nm rt) {i : Fin 4} {j : Nat} {x : Nat} (lv' : List (Nat × Value)) (hd : decode cc pc = .ok (.astore_n i, 1)) (hi : (i : Nat) = j) (hn : j < nL) (hl' : (j, Value.ref x) :: lv.filter (fun q => !(q.1 == j) && !(q.1 + 1 == j && q.2.category == 2)) = lv') (k : RA D z nL A ce sl Q ws (pc + 1) lv' st) : RA D z nL A ce sl Q ws pc lv (.ref x :: st) := fun H locs ls hP hD hS hl => lv_astore_n C.exec C.code hd hi hl hn hl' (fun ls hl => k H locs ls hP hD hS hl)
theorem arr_K {s : State} {ty : FieldType} {args : Array Value} (h : (Cond.arrayClass ty).before args s = true) : ∃ c : ClassId, ArrOfT s c ty ∧ s.vm.findClass ("[" ++ ty.toString) = some c := by
  obtain ⟨c, k, comp, h1, h2, h3⟩ := Cond.arrayClass_spec h
  exact ⟨c, fun n z => ⟨fun k h => (by cases h), k, h2, comp, h3⟩, h1⟩
theorem sg_start {s : State} {b : Nat} (hts : ∀ w ∈ lw_tbl, w.before #[Value.ref b] s = true) (hgv : (Jvm.Cond.and given_1 narrow_1).before #[Value.ref b] s = true) : ∃ x v, SG x v s.heap.size s := by
  have htg := tb_hts hts
  have hf := flat_of_before _ hgv
  have hA : ∀ w : Nat, w < s.heap.size → ¬ Bq s.heap.size w := fun w h => Nat.not_le.mpr h
  obtain ⟨adK, adV, hV, hE⟩ := vk_Sof (N := 1) (tm := fun _ => .string RX6 21) (len := [119]) (byt := [owB]) (A := Bq s.heap.size) (args := #[Value.ref b]) (s := s)
    (fun i hi => by have : i = 0 := by omega
                    subst this; decide)
    (fun i hi => hf _ (by decide +kernel)) (fun i hi => hf _ (by decide +kernel)) (fun i hi => hf _ (by decide +kernel))
    (fun i hi => by have : i = 0 := by omega
                    subst this; exact hf _ (by decide +kernel))
    (fun i hi j hj => by have : i = 0 := by omega
                         subst this; exact hf _ (el_mem j hj))
    (fun i j hi hj hne => absurd (by omega) hne) hA
  have hv := hV.1 0 (by omega)
  exact ⟨adK 0, adV 0, vk_R.of (hts _ sref) (hE 0 (by omega)), hv.1, hv.2.1, hv.2.2.1, hv.2.2.2, va_Zof (hts _ lst_C) (htg _ inis_J0) (va_eqt (hf _ (by decide +kernel))) hA, va_Zqof (hts _ lst_S) (htg _ inis_J3) (hf _ (by decide +kernel)) hA⟩
theorem cl_start {s : State} {b : Nat} (hts : ∀ w ∈ lw_tbl, w.before #[Value.ref b] s = true) : ∃ (D : va_G) (cA : Nat → ClassId), va_K D clX (tys cA) s := by
  have htg := tb_hts hts
  obtain ⟨c0, i0, g0⟩ := u_known (C := RX0) (T := TX0) (N := 3) (n := 3) htg inl_X0 (htg _ ins_X0)
  obtain ⟨c1, i1, g1⟩ := u_known (C := RX1) (T := TX1) (N := 5) (n := 5) htg inl_X1 (htg _ ins_X1)
  obtain ⟨c2, i2, g2⟩ := u_known (C := RX2) (T := TX2) (N := 12) (n := 12) htg inl_X2 (htg _ ins_X2)
  obtain ⟨c3, i3, g3⟩ := u_known (C := RX3) (T := TX3) (N := 2) (n := 2) htg inl_X3 (htg _ ins_X3)
  obtain ⟨c4, i4, g4⟩ := u_known (C := RX4) (T := TX4) (N := 11) (n := 11) htg inl_X4 (htg _ ins_X4)
  obtain ⟨c5, i5, g5⟩ := u_known (C := RX5) (T := TX5) (N := 3) (n := 3) htg inl_X5 (htg _ ins_X5)
  obtain ⟨c6, i6, g6⟩ := u_known (C := RX6) (T := TX6) (N := 10) (n := 10) htg inl_X6 (htg _ ins_X6)
  obtain ⟨c7, i7, g7⟩ := u_known (C := RX7) (T := TX7) (N := 5) (n := 5) htg inl_X7 (htg _ ins_X7)
  obtain ⟨c8, i8, g8⟩ := u_known (C := RX8) (T := TX8) (N := 5) (n := 5) htg inl_X8 (htg _ ins_X8)
  obtain ⟨c9, i9, g9⟩ := u_known (C := RX9) (T := TX9) (N := 15) (n := 15) htg inl_X9 (htg _ ins_X9)
  obtain ⟨c10, i10, g10⟩ := u_known (C := RX10) (T := TX10) (N := 12) (n := 12) htg inl_X10 (htg _ ins_X10)
  obtain ⟨c11, i11, g11⟩ := u_known (C := RX11) (T := TX11) (N := 73) (n := 73) htg inl_X11 (htg _ ins_X11)
  obtain ⟨a0, e0, f0⟩ := arr_K (htg _ ac_int)
  obtain ⟨a1, e1, f1⟩ := arr_K (htg _ ac_long)
  obtain ⟨a2, e2, f2⟩ := arr_K (htg _ ac_boolean)
  refine ⟨(fun k => [c0, c1, c2, c3, c4, c5, c6, c7, c8, c9, c10, c11].getD k c0, fun k => [i0, i1, i2, i3, i4, i5, i6, i7, i8, i9, i10, i11].getD k i0), fun k => [a0, a1, a2].getD k a0, fun k q hq => ?_, fun k q hq => ?_⟩
  · match k, hq with
    | 0, hq => cases hq; exact g0
    | 1, hq => cases hq; exact g1
    | 2, hq => cases hq; exact g2
    | 3, hq => cases hq; exact g3
    | 4, hq => cases hq; exact g4
    | 5, hq => cases hq; exact g5
    | 6, hq => cases hq; exact g6
    | 7, hq => cases hq; exact g7
    | 8, hq => cases hq; exact g8
    | 9, hq => cases hq; exact g9
    | 10, hq => cases hq; exact g10
    | 11, hq => cases hq; exact g11
    | k + 12, hq => simp [clX] at hq
  · match k, hq with
    | 0, hq => cases hq; exact ⟨e0, f0⟩
    | 1, hq => cases hq; exact ⟨e1, f1⟩
    | 2, hq => cases hq; exact ⟨e2, f2⟩
    | k + 3, hq => simp at hq
theorem shX_len : shX.length = 74 := rfl
theorem shM_len : shM.length = 46 := rfl
theorem app_X {D : va_G} {w1 w2 : va_W} {H : Heap} (h : va_P D clX (w1 ++ w2) H) : va_P D clX w1 H ∧ va_P D clX w2 H := by
  refine ⟨fun k x hk => h k x ?_, fun k x hk => h (w1.length + k) x ?_⟩
  · rw [List.getElem?_append_left (List.getElem?_eq_some_iff.mp hk).1]; exact hk
  · rw [List.getElem?_append_right (by omega), Nat.add_sub_cancel_left]; exact hk
theorem kcX_len (cA : Nat → ClassId) (q : Nat) (u : Nat → Nat) : (kc_X10 cA q u).length = 74 := rfl
set_option maxRecDepth 100000 in
set_option maxHeartbeats 4000000 in
theorem whole_of {Rel : St → St → Prop} (hs : StepAll Rel) (hrel : Rel sX0 sM0) {p : Program} {e : Env} {s : State} {m : MethodId} {below : List Frame} {meth : Method} {c : Code} (l : Launch) {b L : Nat} {xs : Nat → Int32} (hL : L ≤ 3072) (C0 : lw_At p s m meth c b L xs) : W p l e room_1 s m #[Value.ref b] below meth c s.heap [] 0 0 (lw_Z below #[Value.ref b] s) (entryFrame m ([Value.ref b] : List Value).toArray 4) := by
  obtain ⟨hx, hb, hr, hml, hown, hts, hX, hbl, hlocks, hgv⟩ := id C0
  have htg := tb_hts hts
  obtain ⟨D, cA, hK⟩ := cl_start hts
  obtain ⟨x, v, hsg⟩ := sg_start hts hgv
  have hl := lv_entry [.ref b] (n := 4) (Nat.le_of_ble_eq_true rfl)
  rw [lg_entry_eq]
  have C : CA D cA (mkz p l e room_1 s m #[Value.ref b] below meth c) R_law code 4 (fun q : Nat => s.heap.size ≤ q) 2048 600000 7302250 84000 meth.name ret := ⟨hx, hb, hml, hown, htg, hK, hr, hlocks, rfl, rfl, fun q h => h⟩
  have hGo : ∀ q : Nat, s.heap.size ≤ q → ∀ (H : Heap) (locs : List Loc) (U : State), va_S (fun q : Nat => s.heap.size ≤ q) s.heap H locs → U.heap = H → s.WarmedH U.vm → SGB x v s.heap.size q U := fun q hq H locs U hS hU hW => ⟨hsg.go hW (fun w h1 h2 => by rw [hU]; exact hS.2.1 w h1 h2), by rw [hU]; exact hS.1, hq⟩
  have key : RA D (mkz p l e room_1 s m #[Value.ref b] below meth c) 4 (fun q : Nat => s.heap.size ≤ q) 0 0 (lw_Z below #[Value.ref b] s) [] 0 [(0, .ref b)] [] := by
    refine ra_new C [.null, .null, .null, .null, .null, .null, .null, .null, .null, .int 0, .int 0, .int 0] fc_X10 lk_L_7 ins_X10 ini_X10 df_X10 (by omega) (by omega) dL_law_0 (fun q => [(q, .inr (10, [.null, .null, .null, .null, .null, .null, .null, .null, .null, .int 0, .int 0, .int 0]))]) (fun _ => rfl) (fun q => ?_)
    refine ra_dup C dL_law_3 rfl ?_
    refine ra_ctor C (n := 0) [] [.ref q] 0 [] [] (c_X10_init l D cA q x v s.heap.size) sgb_call (hGo q) cd_X10_init im_X10_init ini_X10 lk_L_9 ⟨rfl, by decide +kernel, by decide +kernel, by decide +kernel⟩ rfl rfl rfl (by decide) (by decide) rfl (Nat.le_of_ble_eq_true rfl) ⟨Nat.le_of_ble_eq_true rfl, Nat.le_of_ble_eq_true rfl⟩ ⟨Nat.le_of_ble_eq_true rfl, Nat.le_of_ble_eq_true rfl⟩ dL_law_4 (fun u => kc_X10 cA q u) (fun _ => rfl) (fun u => ?_)
    refine ra_astore_n C [(1, .ref q), (0, .ref b)] dL_law_7 rfl (by decide) rfl ?_
    refine ra_new C [.null, .int 0, .int 0, .int 0, .int 0, .int 0, .int 0, .long 0, .int 0, .int 0, .int 0, .int 0, .int 0, .null, .null, .null, .null, .null, .null, .null, .null, .null, .null, .null, .null, .null, .null, .null, .null, .null, .null, .null, .null, .null, .null, .null, .null, .int 0, .int 0, .null, .null, .null, .null, .null, .int 0, .int 0, .null, .int 0, .int 0, .null, .null, .null, .int 0, .null, .null, .int 0, .int 0, .null, .null, .null, .int 0, .null, .int 0, .null, .int 0, .null, .null, .long 0, .int 0, .int 0, .null, .null, .int 0] fc_X11 lk_L_10 ins_X11 ini_X11 df_X11 (Nat.le_of_ble_eq_true rfl) (Nat.le_of_ble_eq_true rfl) dL_law_8 (fun q2 => kc_X10 cA q u ++ [(q2, .inr (11, [.null, .int 0, .int 0, .int 0, .int 0, .int 0, .int 0, .long 0, .int 0, .int 0, .int 0, .int 0, .int 0, .null, .null, .null, .null, .null, .null, .null, .null, .null, .null, .null, .null, .null, .null, .null, .null, .null, .null, .null, .null, .null, .null, .null, .null, .int 0, .int 0, .null, .null, .null, .null, .null, .int 0, .int 0, .null, .int 0, .int 0, .null, .null, .null, .int 0, .null, .null, .int 0, .int 0, .null, .null, .null, .int 0, .null, .int 0, .null, .int 0, .null, .null, .long 0, .int 0, .int 0, .null, .null, .int 0]))]) (fun _ => rfl) (fun q2 => ?_)
    refine ra_dup C dL_law_11 rfl ?_
    refine ra_ctor C (n := 0) [] [.ref q2] 74 [0, 1, 2, 3, 4, 5, 6, 7, 8, 9, 10, 11, 12, 13, 14, 15, 16, 17, 18, 19, 20, 21, 22, 23, 24, 25, 26, 27, 28, 29, 30, 31, 32, 33, 34, 35, 36, 37, 38, 39, 40, 41, 42, 43, 44, 45, 46, 47, 48, 49, 50, 51, 52, 53, 54, 55, 56, 57, 58, 59, 60, 61, 62, 63, 64, 65, 66, 67, 68, 69, 70, 71, 72, 73] (kc_X10 cA q u) (c_X11_init l D cA q2) (fun _ _ _ _ _ => trivial) (fun _ _ _ _ _ _ _ => trivial) cd_X11_init im_X11_init ini_X11 lk_L_12 ⟨rfl, by decide +kernel, by decide +kernel, by decide +kernel⟩ rfl rfl rfl (by decide) (by decide) rfl (Nat.le_of_ble_eq_true rfl) ⟨Nat.le_of_ble_eq_true rfl, Nat.le_of_ble_eq_true rfl⟩ ⟨Nat.le_of_ble_eq_true rfl, Nat.le_of_ble_eq_true rfl⟩ dL_law_12 (fun u2 => kc_X10 cA q u ++ kc_X11 cA q2 u2) (fun _ => rfl) (fun u2 => ?_)
    refine ra_astore_n C [(2, .ref q2), (1, .ref q), (0, .ref b)] dL_law_15 rfl (by decide) rfl ?_
    refine ra_iconst C dL_law_16 lwi_0 ?_
    refine ra_istore_n C [(3, .int 0), (2, .ref q2), (1, .ref q), (0, .ref b)] dL_law_17 rfl (by decide) rfl ?_
    intro H locs ls hP hD hS hl
    obtain ⟨hPx, hPm⟩ := app_X hP
    have atX : ∀ i, i < shX.length → ∃ e, (kc_X10 cA q u ++ kc_X11 cA q2 u2)[i]? = some (axq q u i, e) := fun i hi => by
      obtain ⟨e, h⟩ := kcX_at cA q u (i := i) hi
      exact ⟨e, by rw [List.getElem?_append_left (List.getElem?_eq_some_iff.mp h).1]; exact h⟩
    have atM : ∀ i, i < shM.length → ∃ e, (kc_X10 cA q u ++ kc_X11 cA q2 u2)[74 + i]? = some (axq q2 u2 i, e) := fun i hi => by
      obtain ⟨e, h⟩ := kcM_at cA q2 u2 (i := i) hi
      refine ⟨e, ?_⟩
      rw [List.getElem?_append_right (by rw [kcX_len]; omega), kcX_len, Nat.add_sub_cancel_left]; exact h
    have CLx : CL (mkz p l e room_1 s m #[Value.ref b] below meth c) b L xs (axq q u) (axq q2 u2) D cA := by
      refine ⟨C0, htg, hK, fun i j hi hj he => ?_, fun i j hi hj he => ?_, fun i j hi hj he => ?_, fun i hi => ?_, fun i hi => ?_⟩
      · obtain ⟨e1, h1⟩ := atX i hi
        obtain ⟨e2, h2⟩ := atX j hj
        exact hD.1 i j _ _ h1 h2 he
      · obtain ⟨e1, h1⟩ := atM i hi
        obtain ⟨e2, h2⟩ := atM j hj
        have := hD.1 _ _ _ _ h1 h2 he
        omega
      · obtain ⟨e1, h1⟩ := atX i hi
        obtain ⟨e2, h2⟩ := atM j hj
        have := hD.1 _ _ _ _ h1 h2 he
        rw [shX_len] at hi
        omega
      · obtain ⟨e1, h1⟩ := atX i hi
        exact hD.2 _ _ h1
      · obtain ⟨e1, h1⟩ := atM i hi
        exact hD.2 _ _ h1
    exact law_loop CLx hL ⟨Nat.le_of_ble_eq_true rfl, Nat.le_of_ble_eq_true rfl⟩ hs 600 0 0 sX0 sM0 nI_0.symm (by omega) (by omega) hrel H locs ls (kcX_P hPx) (kcM_P hPm) hS hl
  exact key s.heap [] _ (fun k q h => by simp at h) ⟨fun i j p q h => by simp at h, fun k q h => by simp at h⟩ va_S.rf hl
