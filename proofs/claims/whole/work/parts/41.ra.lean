/-! ===== constructors: a world of cells, which grows ===== -/
theorem im_objI : Cond.instanceMethod objectInit ∈ tbG := tb_1 (List.mem_of_getElem? (i := 27) rfl) rfl
theorem cd_objI : Cond.code objectInit ⟨#[0xb1]⟩ 1 none ∈ tbG := tb_1 (List.mem_of_getElem? (i := 28) rfl) rfl
def RA (D : va_G) (z : Cz) (nL : Nat) (A : Nat → Prop) (ce sl : Nat) (Q : State → Prop) (ws : va_W) (pc : Nat) (lv : List (Nat × Value)) (st : List Value) : Prop :=
  ∀ (H : Heap) (locs : List Loc) (ls : Array Slot), va_P D clX ws H → va_D A ws → va_S A z.s.heap H locs → lv_has ls nL lv → W z.p z.l z.e z.R z.s z.m z.args z.below z.meth z.c H locs ce sl Q (F0 z.m pc ls st)
def CA (D : va_G) (cA : Nat → ClassId) (z : Cz) (own : String) (cc : ByteArray) (nL : Nat) (A : Nat → Prop) (fr mc ms lo : Nat) (nm : String := "<init>") (rt : Option FieldType := none) : Prop :=
  z.p.tables.exec = Jvm.exec ∧ z.c.code = cc ∧ z.c.maxLocals = nL ∧ z.s.vm.findClass own = some z.m.cls ∧ (∀ w ∈ tbG, w.before z.args z.s = true) ∧ va_K D clX (tys cA) z.s ∧ z.meth.sig.returnType = rt ∧ z.meth.locks = false ∧ z.meth.name = nm ∧ z.R = { frames := fr, cells := mc, slots := ms, locals := lo } ∧ ∀ q, z.s.heap.size ≤ q → A q
/-- a constructor's contract: the one cell of the object, then all that it has made, at addresses u -/
def KT (l : Launch) (y : MethodName) (cc : ByteArray) (maxL fr lo mc ms : Nat) (D : va_G) (cA : Nat → ClassId) (q : Nat) (e0 : va_E) (As : List Value) (G : State → Prop) (w1 : (Nat → Nat) → va_W) : Prop :=
  ∀ sz, Met l y (.code y cc maxL none :: tbG) { frames := fr, cells := mc, slots := ms, locals := lo } (va_Pc (.ref q :: As) (fun U => U.heap.size = sz ∧ va_P D clX [(q, e0)] U.heap ∧ va_K D clX (tys cA) U ∧ G U)) (va_Qv (fun _ : Nat → Nat => True) (fun u t => va_P D clX (w1 u) t.heap ∧ va_K D clX (tys cA) t ∧ va_D (va_A [(q, e0)] sz) (w1 u)) (va_A [(q, e0)] sz)) mc ms (va_A [(q, e0)] sz)
section RAs
variable {D : va_G} {cA : Nat → ClassId} {z : Cz} {own : String} {cc : ByteArray} {nL : Nat} {A : Nat → Prop} {fr mc ms lo : Nat} {nm : String} {rt : Option FieldType} {ce sl : Nat} {Q : State → Prop} {ws : va_W} {pc : Nat} {lv : List (Nat × Value)} {st : List Value}
theorem CA.exec (C : CA D cA z own cc nL A fr mc ms lo nm rt) : z.p.tables.exec = Jvm.exec := C.1
theorem CA.code (C : CA D cA z own cc nL A fr mc ms lo nm rt) : z.c.code = cc := C.2.1
theorem CA.maxl (C : CA D cA z own cc nL A fr mc ms lo nm rt) : z.c.maxLocals = nL := C.2.2.1
theorem CA.ow (C : CA D cA z own cc nL A fr mc ms lo nm rt) : z.s.vm.findClass own = some z.m.cls := C.2.2.2.1
theorem CA.hts (C : CA D cA z own cc nL A fr mc ms lo nm rt) : ∀ w ∈ tbG, w.before z.args z.s = true := C.2.2.2.2.1
theorem CA.K (C : CA D cA z own cc nL A fr mc ms lo nm rt) : va_K D clX (tys cA) z.s := C.2.2.2.2.2.1
theorem CA.rtn (C : CA D cA z own cc nL A fr mc ms lo nm rt) : z.meth.sig.returnType = rt := C.2.2.2.2.2.2.1
theorem CA.lk (C : CA D cA z own cc nL A fr mc ms lo nm rt) : z.meth.locks = false := C.2.2.2.2.2.2.2.1
theorem CA.nme (C : CA D cA z own cc nL A fr mc ms lo nm rt) : z.meth.name = nm := C.2.2.2.2.2.2.2.2.1
theorem CA.room (C : CA D cA z own cc nL A fr mc ms lo nm rt) : z.R = { frames := fr, cells := mc, slots := ms, locals := lo } := C.2.2.2.2.2.2.2.2.2.1
theorem CA.hA (C : CA D cA z own cc nL A fr mc ms lo nm rt) : ∀ q, z.s.heap.size ≤ q → A q := C.2.2.2.2.2.2.2.2.2.2
theorem ra_iconst (C : CA D cA z own cc nL A fr mc ms lo nm rt) {n : Int} {v : Int32} (hd : decode cc pc = .ok (.iconst n, 1)) (hv : Int32.ofInt n = v) (k : RA D z nL A ce sl Q ws (pc + 1) lv (.int v :: st)) : RA D z nL A ce sl Q ws pc lv (st) := fun H locs ls hP hD hS hl => lv_iconst C.exec C.code hd hv (k H locs ls hP hD hS hl)
theorem ra_bipush (C : CA D cA z own cc nL A fr mc ms lo nm rt) {n : Int} {v : Int32} (hd : decode cc pc = .ok (.bipush n, 2)) (hv : (Int8.ofInt n).toInt32 = v) (k : RA D z nL A ce sl Q ws (pc + 2) lv (.int v :: st)) : RA D z nL A ce sl Q ws pc lv (st) := fun H locs ls hP hD hS hl => lv_bipush C.exec C.code hd hv (k H locs ls hP hD hS hl)
theorem ra_sipush (C : CA D cA z own cc nL A fr mc ms lo nm rt) {n : Int} {v : Int32} (hd : decode cc pc = .ok (.sipush n, 3)) (hv : (Int16.ofInt n).toInt32 = v) (k : RA D z nL A ce sl Q ws (pc + 3) lv (.int v :: st)) : RA D z nL A ce sl Q ws pc lv (st) := fun H locs ls hP hD hS hl => lv_sipush C.exec C.code hd hv (k H locs ls hP hD hS hl)
theorem ra_lconst (C : CA D cA z own cc nL A fr mc ms lo nm rt) {n : Fin 2} {v : Int64} (hd : decode cc pc = .ok (.lconst n, 1)) (hv : Int64.ofNat (n : Nat) = v) (k : RA D z nL A ce sl Q ws (pc + 1) lv (.long v :: st)) : RA D z nL A ce sl Q ws pc lv (st) := fun H locs ls hP hD hS hl => lv_lconst C.exec C.code hd hv (k H locs ls hP hD hS hl)
theorem ra_imul (C : CA D cA z own cc nL A fr mc ms lo nm rt) {x y : Int32} (hd : decode cc pc = .ok (.imul, 1))  (k : RA D z nL A ce sl Q ws (pc + 1) lv (.int (x * y) :: st)) : RA D z nL A ce sl Q ws pc lv (.int y :: .int x :: st) := fun H locs ls hP hD hS hl => lv_imul C.exec C.code hd  (k H locs ls hP hD hS hl)
theorem ra_dup (C : CA D cA z own cc nL A fr mc ms lo nm rt) {va : Value} (hd : decode cc pc = .ok (.dup, 1)) (hva : va.category = 1) (k : RA D z nL A ce sl Q ws (pc + 1) lv (va :: va :: st)) : RA D z nL A ce sl Q ws pc lv (va :: st) := fun H locs ls hP hD hS hl => lv_dup C.exec C.code hd hva (k H locs ls hP hD hS hl)
theorem ra_iload_n (C : CA D cA z own cc nL A fr mc ms lo nm rt) {i : Fin 4} {j : Nat} {x : Int32} (k0 : Nat) (hd : decode cc pc = .ok (.iload_n i, 1)) (hi : (i : Nat) = j) (hk : lv[k0]? = some (j, .int x)) (k : RA D z nL A ce sl Q ws (pc + 1) lv (.int x :: st)) : RA D z nL A ce sl Q ws pc lv st := fun H locs ls hP hD hS hl => lv_iload_n C.exec C.code hd hi (lv_at hl k0 hk) (k H locs ls hP hD hS hl)
theorem ra_aload_n (C : CA D cA z own cc nL A fr mc ms lo nm rt) {i : Fin 4} {j : Nat} {x : Nat} (k0 : Nat) (hd : decode cc pc = .ok (.aload_n i, 1)) (hi : (i : Nat) = j) (hk : lv[k0]? = some (j, .ref x)) (k : RA D z nL A ce sl Q ws (pc + 1) lv (.ref x :: st)) : RA D z nL A ce sl Q ws pc lv st := fun H locs ls hP hD hS hl => lv_aload_n C.exec C.code hd hi (lv_at hl k0 hk) (k H locs ls hP hD hS hl)
theorem ra_objI (C : CA D cA z own cc nL A fr mc ms lo nm rt) {idx q : Nat} (hlk : Cond.methodLink own idx objectInit ∈ tbG) (hd : decode cc pc = .ok (.invokespecial idx, 3)) (h1 : 1 ≤ fr) (h2 : (st.map fun v => v.category).sum + 12 ≤ lo) (k : RA D z nL A ce sl Q ws (pc + 3) lv st) : RA D z nL A ce sl Q ws pc lv (.ref q :: st) := fun H locs ls hP hD hS hl => by
  refine W.objInit C.exec C.code C.ow (C.hts _ hlk) (C.hts _ im_objI) (C.hts _ cd_objI) rfl (by rw [C.maxl]; exact hl.1) rfl hd (by rw [C.room]; exact h1) (by rw [C.room]; show 2 * 0 + _ + 12 ≤ lo; omega) ?_
  exact k H locs ls hP hD hS hl
theorem ra_get (C : CA D cA z own cc nL A fr mc ms lo nm rt) {ci k idx N : Nat} {Cn : String} {T : u_T} {ty : Nat → FieldType} (q0 : Nat) {q : Nat} {fs : List Value} (he : ws[q0]? = some (q, .inr (ci, fs))) (hF : FC ci Cn T ty N) (hkN : k < N) (hlk : Cond.fieldLink own idx (T k).1 (T k).2.1 (T k).2.2.1 ∈ tbG) {v : Value} (hv : fs[k]? = some v) (hd : decode cc pc = .ok (.getfield idx, 3)) (kk : RA D z nL A ce sl Q ws (pc + 3) lv (v :: st)) : RA D z nL A ce sl Q ws pc lv (.ref q :: st) := fun H locs ls hP hD hS hl => va_get C.exec C.code C.hts hF.2.1 C.ow C.K hP q0 he hF.1 k hkN (C.hts _ hlk) (fun _ h => h) hv hd (kk H locs ls hP hD hS hl)
theorem ra_put (C : CA D cA z own cc nL A fr mc ms lo nm rt) {ci k idx N : Nat} {Cn : String} {T : u_T} {ty : Nat → FieldType} (q0 : Nat) {q : Nat} {fs : List Value} (he : ws[q0]? = some (q, .inr (ci, fs))) (hF : FC ci Cn T ty N) (hkN : k < N) (hlk : Cond.fieldLink own idx (T k).1 (T k).2.1 (T k).2.2.1 ∈ tbG) {v : Value} (ws' : va_W) (hfin : (T k).2.2.2 = false) (hz : narrow (ty k) v = v ∧ fits (ty k) v = true) (hl2 : k < fs.length) (hw : ws.set q0 (q, .inr (ci, fs.set k v)) = ws') (hd : decode cc pc = .ok (.putfield idx, 3)) (kk : RA D z nL A ce sl Q ws' (pc + 3) lv st) : RA D z nL A ce sl Q ws pc lv (v :: .ref q :: st) := fun H locs ls hP hD hS hl => va_put C.exec C.code C.hts hF.2.1 ty hF.2.2.1 hF.2.2.2 C.ow C.K hP hD hS q0 he hF.1 k hkN (C.hts _ hlk) (fun _ h => h) hfin (hF.2.2.1 k hkN) hz.1 hz.2 hl2 hd (fun H1 locs1 hP1 hD1 hS1 => by
  rw [hw] at hP1 hD1
  exact kk H1 locs1 ls hP1 hD1 hS1 hl)
theorem ra_putF (C : CA D cA z own cc nL A fr mc ms lo nm rt) {ci k idx N : Nat} {Cn : String} {T : u_T} {ty : Nat → FieldType} (q0 : Nat) {q : Nat} {fs : List Value} (he : ws[q0]? = some (q, .inr (ci, fs))) (hF : FC ci Cn T ty N) (hkN : k < N) (hlk : Cond.fieldLink own idx (T k).1 (T k).2.1 (T k).2.2.1 ∈ tbG) {v : Value} (ws' : va_W) (hfin : (T k).2.2.2 = true) (hnm : nm = "<init>") (hdecl : (T k).1 = own) (hz : narrow (ty k) v = v ∧ fits (ty k) v = true) (hl2 : k < fs.length) (hw : ws.set q0 (q, .inr (ci, fs.set k v)) = ws') (hd : decode cc pc = .ok (.putfield idx, 3)) (kk : RA D z nL A ce sl Q ws' (pc + 3) lv st) : RA D z nL A ce sl Q ws pc lv (v :: .ref q :: st) := fun H locs ls hP hD hS hl => va_putF C.exec C.code C.hts hF.2.1 ty hF.2.2.1 hF.2.2.2 C.ow C.K hP hD hS q0 he hF.1 k hkN (C.hts _ hlk) (fun _ h => h) hfin (C.nme.trans hnm) hdecl (hF.2.2.1 k hkN) hz.1 hz.2 hl2 hd (fun H1 locs1 hP1 hD1 hS1 => by
  rw [hw] at hP1 hD1
  exact kk H1 locs1 ls hP1 hD1 hS1 hl)
theorem ra_new (C : CA D cA z own cc nL A fr mc ms lo nm rt) {ci idx N : Nat} {Cn : String} {T : u_T} {ty : Nat → FieldType} (fs : List Value) (hF : FC ci Cn T ty N) (hlk : Cond.classLink own idx Cn ∈ tbG) (hins : Cond.instantiable Cn N ∈ tbG) (hini : Cond.initialized Cn ∈ tbG) (hfs : ∀ j, j < N → defaultValue (ty j) = vp_V fs j) (h1 : ce + 1 ≤ mc) (h2 : sl + N ≤ ms) (hd : decode cc pc = .ok (.new idx, 3)) (ws' : Nat → va_W) (hw : ∀ q, ws ++ [(q, .inr (ci, fs))] = ws' q) (kk : ∀ q, RA D z nL A (ce + 1) (sl + N) Q (ws' q) (pc + 3) lv (.ref q :: st)) : RA D z nL A ce sl Q ws pc lv st := fun H locs ls hP hD hS hl => va_new C.exec C.code C.hts hF.2.1 ty hF.2.2.1 C.ow (C.hts _ hlk) (C.hts _ hins) (C.hts _ hini) C.K hP hD hS C.hA hF.1 hfs (by rw [C.room]; exact h1) (by rw [C.room]; exact h2) hd (fun q H1 hP1 hD1 hS1 => by
  rw [hw] at hP1 hD1
  exact kk q H1 locs ls hP1 hD1 hS1 hl)
theorem ra_newI (C : CA D cA z own cc nL A fr mc ms lo nm rt) {n : Int32} (N : Nat) (hn : ¬ n < 0) (hN : n.toNatClampNeg = N) (hb : N ≤ 60000) (h1 : ce + 1 ≤ mc) (h2 : sl + N ≤ ms) (hd : decode cc pc = .ok (.newarray .int, 2)) (ws' : Nat → va_W) (hw : ∀ q, ws ++ [(q, .inl (cA 0, N, .inl (fun _ => 0)))] = ws' q) (kk : ∀ q, RA D z nL A (ce + 1) (sl + N) Q (ws' q) (pc + 2) lv (.ref q :: st)) : RA D z nL A ce sl Q ws pc lv (.int n :: st) := fun H locs ls hP hD hS hl => by
  have hbb : N * componentBytes .int ≤ 536870912 := Nat.le_trans (Nat.mul_le_mul_left N (show componentBytes .int ≤ 8 by decide)) (by omega)
  refine va_newa (atype := .int) (ty := .int) (a0 := (N, .inl (fun _ => 0))) C.exec C.code (C.hts _ ac_int) rfl C.K hP hD hS C.hA (fun _ => rfl) hn hN hbb (by rw [C.room]; exact h1) (by rw [C.room]; exact h2) hd (fun q c1 H1 hK1 hP1 hD1 hS1 => ?_)
  have e1 : z.s.vm.findClass ("[" ++ (FieldType.int).toString) = some c1 := (hK1.2 3 _ rfl).2
  have e2 : z.s.vm.findClass ("[" ++ (FieldType.int).toString) = some (cA 0) := (C.K.2 0 _ rfl).2
  have e3 : c1 = cA 0 := Option.some.inj (e1.symm.trans e2)
  subst e3
  rw [hw] at hP1 hD1
  exact kk q H1 locs ls hP1 hD1 hS1 hl
theorem ra_newL (C : CA D cA z own cc nL A fr mc ms lo nm rt) {n : Int32} (N : Nat) (hn : ¬ n < 0) (hN : n.toNatClampNeg = N) (hb : N ≤ 60000) (h1 : ce + 1 ≤ mc) (h2 : sl + N ≤ ms) (hd : decode cc pc = .ok (.newarray .long, 2)) (ws' : Nat → va_W) (hw : ∀ q, ws ++ [(q, .inl (cA 1, N, .inr (.inl (fun _ => 0))))] = ws' q) (kk : ∀ q, RA D z nL A (ce + 1) (sl + N) Q (ws' q) (pc + 2) lv (.ref q :: st)) : RA D z nL A ce sl Q ws pc lv (.int n :: st) := fun H locs ls hP hD hS hl => by
  have hbb : N * componentBytes .long ≤ 536870912 := Nat.le_trans (Nat.mul_le_mul_left N (show componentBytes .long ≤ 8 by decide)) (by omega)
  refine va_newa (atype := .long) (ty := .long) (a0 := (N, .inr (.inl (fun _ => 0)))) C.exec C.code (C.hts _ ac_long) rfl C.K hP hD hS C.hA (fun _ => rfl) hn hN hbb (by rw [C.room]; exact h1) (by rw [C.room]; exact h2) hd (fun q c1 H1 hK1 hP1 hD1 hS1 => ?_)
  have e1 : z.s.vm.findClass ("[" ++ (FieldType.long).toString) = some c1 := (hK1.2 3 _ rfl).2
  have e2 : z.s.vm.findClass ("[" ++ (FieldType.long).toString) = some (cA 1) := (C.K.2 1 _ rfl).2
  have e3 : c1 = cA 1 := Option.some.inj (e1.symm.trans e2)
  subst e3
  rw [hw] at hP1 hD1
  exact kk q H1 locs ls hP1 hD1 hS1 hl
theorem ra_newZ (C : CA D cA z own cc nL A fr mc ms lo nm rt) {n : Int32} (N : Nat) (hn : ¬ n < 0) (hN : n.toNatClampNeg = N) (hb : N ≤ 60000) (h1 : ce + 1 ≤ mc) (h2 : sl + N ≤ ms) (hd : decode cc pc = .ok (.newarray .boolean, 2)) (ws' : Nat → va_W) (hw : ∀ q, ws ++ [(q, .inl (cA 2, N, .inl (fun _ => 0)))] = ws' q) (kk : ∀ q, RA D z nL A (ce + 1) (sl + N) Q (ws' q) (pc + 2) lv (.ref q :: st)) : RA D z nL A ce sl Q ws pc lv (.int n :: st) := fun H locs ls hP hD hS hl => by
  have hbb : N * componentBytes .boolean ≤ 536870912 := Nat.le_trans (Nat.mul_le_mul_left N (show componentBytes .boolean ≤ 8 by decide)) (by omega)
  refine va_newa (atype := .boolean) (ty := .boolean) (a0 := (N, .inl (fun _ => 0))) C.exec C.code (C.hts _ ac_boolean) rfl C.K hP hD hS C.hA (fun _ => rfl) hn hN hbb (by rw [C.room]; exact h1) (by rw [C.room]; exact h2) hd (fun q c1 H1 hK1 hP1 hD1 hS1 => ?_)
  have e1 : z.s.vm.findClass ("[" ++ (FieldType.boolean).toString) = some c1 := (hK1.2 3 _ rfl).2
  have e2 : z.s.vm.findClass ("[" ++ (FieldType.boolean).toString) = some (cA 2) := (C.K.2 2 _ rfl).2
  have e3 : c1 = cA 2 := Option.some.inj (e1.symm.trans e2)
  subst e3
  rw [hw] at hP1 hD1
  exact kk q H1 locs ls hP1 hD1 hS1 hl
theorem ra_ctor (C : CA D cA z own cc nL A fr mc ms lo nm rt) {y : MethodName} {bytes : ByteArray} {maxL fr1 lo1 mc1 ms1 n idx : Nat} {q : Nat} {e0 : va_E} {w1 : (Nat → Nat) → va_W} {G : State → Prop} (As rest : List Value) {stk : List Value} (q0 : Nat) (isR : List Nat) (wr : va_W)
    (hM : KT z.l y bytes maxL fr1 lo1 mc1 ms1 D cA q e0 As G w1) (hG0 : ∀ (a : Array Value) (U : State) (g : JFrame) (mk : MethodId), G U → G (U.calling g mk a)) (hG : A q → ∀ (H : Heap) (locs : List Loc) (U : State), va_S A z.s.heap H locs → U.heap = H → z.s.WarmedH U.vm → G U) (hcode : Cond.code y bytes maxL none ∈ tbG) (hin : Cond.instanceMethod y ∈ tbG) (hini : Cond.initialized y.cls ∈ tbG) (hlk : Cond.methodLink own idx y ∈ tbG) (hy : y.name = "<init>" ∧ y.cls ≠ "java/lang/invoke/MethodHandle" ∧ y.cls ≠ "java/lang/invoke/VarHandle" ∧ (parseMethodDescriptor y.desc).map (fun d => d.parameters.length) = some n) (hn : As.length = n)
    (he : ws[q0]? = some (q, e0)) (hR : isR.map (fun i => ws[i]?) = wr.map some) (hnd : va_nd isR = true) (hdis : ∀ i ∈ isR, i ∉ [q0]) (hst : stk = As.reverse ++ .ref q :: rest) (hcat : (rest.map fun v => v.category).sum ≤ 8) (hr : fr1 + 1 ≤ fr ∧ 8 + (maxL + 11) + lo1 ≤ lo) (hcs : ce + mc1 ≤ mc ∧ sl + ms1 ≤ ms) (hd : decode cc pc = .ok (.invokespecial idx, 3)) (ws' : (Nat → Nat) → va_W) (hw : ∀ u, wr ++ w1 u = ws' u)
    (kk : ∀ u, RA D z nL A (ce + mc1) (sl + ms1) Q (ws' u) (pc + 3) lv rest) : RA D z nL A ce sl Q ws pc lv stk := fun H locs ls hP hD hS hl => by
  have hg : GoodIn tbG (.code y bytes maxL none :: tbG) := by
    intro w hw
    have hm : w ∈ tbG := by
      rcases List.mem_cons.mp hw with rfl | h
      · exact hcode
      · exact h
    exact tb_good w hm
  have hC : [q0].map (fun i => ws[i]?) = ([(q, e0)] : va_W).map some := by simp [he]
  have hPc : va_P D clX [(q, e0)] H := hP.sub [q0] (by simp [he])
  have hFc := va_free (wc := [(q, e0)]) hD hS C.hA [q0] hC
  refine va_callv (va_runI (As := As) (rest := rest) ⟨C.exec, C.code, C.maxl, C.ow, C.hts⟩ (hM H.size) (cwI n C.hts hg rfl rfl rfl (C.hts _ hini) (C.hts _ hlk) (C.hts _ hin) hy.1 ⟨hy.2.1, hy.2.2.1, hy.2.2.2⟩ (by rw [C.room]; exact hr)) ⟨fun a U g mk q => ⟨q.1, q.2.1, q.2.2.1, va_K.moved (u := U) (U := U.calling g mk a) (Vm.Alike.refl U.vm) q.2.2.2.1, hG0 a U g mk q.2.2.2.2⟩, fun U hU hW => ⟨rfl, by rw [hU], by rw [hU]; exact hPc, va_K.moved hW.alike C.K, hG (hD.2 q0 _ he) H locs U hS hU hW⟩⟩ rfl hn hl.1 hst (lv_room hcat) hd (by rw [C.room]; exact hcs)) hS (fun q _ h => hFc q h) hFc (fun u t H1 locs1 ht hvm hw1 hB hz1 hk1 hS1 => ?_)
  obtain ⟨hP1, hK1, hD1⟩ := hB
  rw [ht] at hP1
  obtain ⟨hP2, hD2⟩ := va_join (wr := wr) (w1 := w1 u) hP hD [q0] isR hC hR hnd hdis hk1 hFc hP1 hD1
  rw [hw] at hP2 hD2
  exact kk u H1 locs1 ls hP2 hD2 hS1 hl
theorem ra_vret {q : Nat} {e0 : va_E} {w1 : (Nat → Nat) → va_W} (C : CA D cA z own cc nL (va_A [(q, e0)] z.s.heap.size) fr mc ms lo nm none) (u : Nat → Nat) (is : List Nat) (h1 : is.filterMap (fun i => ws[i]?) = w1 u) (h2 : is.map (fun i => ws[i]?) = (w1 u).map some) (hnd : va_nd is = true) (hc : ce ≤ mc ∧ sl ≤ ms) (hd : decode cc pc = .ok (.return_, 1)) : RA D z nL (va_A [(q, e0)] z.s.heap.size) ce sl (MQ z.below (va_Qv (fun _ : Nat → Nat => True) (fun u t => va_P D clX (w1 u) t.heap ∧ va_K D clX (tys cA) t ∧ va_D (va_A [(q, e0)] z.s.heap.size) (w1 u)) (va_A [(q, e0)] z.s.heap.size)) z.args z.s mc ms (va_A [(q, e0)] z.s.heap.size)) ws pc lv [] := fun H locs ls hP hD hS hl => by
  have hP9 := hP.sub is h1
  have hD9 := hD.sub is hnd h2
  refine W.widen (k := mc) (n := ms) hc.1 hc.2 ?_
  exact W.vret (hlocks := C.lk) C.exec C.code C.rtn (fun t ht hW => ⟨⟨u, rfl, trivial, by rw [ht]; exact hP9, va_K.moved hW.alike C.K, hD9⟩, hS.F ht⟩) hS.2.2 hd
end RAs
theorem kt_of {l : Launch} {y : MethodName} {cc : ByteArray} {maxL fr lo mc ms : Nat} {D : va_G} {cA : Nat → ClassId} {q : Nat} {e0 : va_E} {As : List Value} {G : State → Prop} {w1 : (Nat → Nat) → va_W} (hy : plainName y.cls = true) (hi : y.name = "<init>") (hlen : (lg_sl (.ref q :: As)).length ≤ maxL)
    (h : ∀ z : Cz, z.l = l → G z.s → CA D cA z y.cls cc maxL (va_A [(q, e0)] z.s.heap.size) fr mc ms lo → RA D z maxL (va_A [(q, e0)] z.s.heap.size) 0 0 (MQ z.below (va_Qv (fun _ : Nat → Nat => True) (fun u t => va_P D clX (w1 u) t.heap ∧ va_K D clX (tys cA) t ∧ va_D (va_A [(q, e0)] z.s.heap.size) (w1 u)) (va_A [(q, e0)] z.s.heap.size)) z.args z.s mc ms (va_A [(q, e0)] z.s.heap.size)) [(q, e0)] 0 (lv_args 0 (.ref q :: As)) []) : KT l y cc maxL fr lo mc ms D cA q e0 As G w1 := by
  intro sz
  refine Met.ofW (cc := cc) (maxL := maxL) (ret := none) hy rfl ?_
  intro p e2 s m args below meth c s₁ B hml hv
  obtain ⟨rfl, hsz, hP, hK, hg⟩ := hv
  subst hsz
  have hts := atoms_spec (ws := Cond.code y cc maxL none :: tbG) B.pre
  have hl := lv_entry (.ref q :: As) (n := maxL) hlen
  rw [lg_entry_eq]
  refine h (mkz p l e2 { frames := fr, cells := mc, slots := ms, locals := lo } s m (Value.ref q :: As).toArray below meth c) rfl hg ⟨B.exec, B.bytes, hml, findClass_of_methodNamed B.named, fun w hw => hts w (List.mem_cons_of_mem _ hw), hK, B.returns, B.notSynchronized, (name_of_methodNamed B.named B.method).1.trans hi, rfl, fun q h => Or.inr h⟩ s.heap [] _ hP ?_ va_S.rf hl
  refine ⟨fun i j x y hx hy _ => ?_, fun k x hx => va_A.in hx⟩
  have h1 := (List.getElem?_eq_some_iff.mp hx).1
  have h2 := (List.getElem?_eq_some_iff.mp hy).1
  simp at h1 h2
  omega
