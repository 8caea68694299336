/-! THE CLAIM OUT OF ONE WALK OF THE LAW'S BODY. Your part is whole_start (and what it stands on); all else here is the same for every law, but numbers. -/
def R_law : String := "LeadNamesLaw"
def lw_P (b : Addr) (xs : List Int32) (args : Array Value) (s : State) : Prop := args = #[.ref b] ∧ s.IntsAt b xs ∧ xs.length ≤ 3072 ∧ (Jvm.Cond.and given_1 narrow_1).before args s = true
def lw_Q (_ : Array Value) (s : State) (o : Outcome) (t : State) : Prop := o = .returned (some (.int 1)) ∧ Framed s o t [] 600000 7302250
def lw_Z (below : List Frame) (a : Array Value) (s : State) : State → Prop := fun t => ∃ o, t.status = .running ∧ Ended t below o ∧ lw_Q a s o t
/-- the law's own end, with 1 on the stack, nothing written that was there before, its room as the claim has it -/
theorem lw_ret {p : Program} {l : Launch} {e : Env} {s : State} {m : MethodId} {below : List Frame} {meth : Method} {c : Code} {b : Nat} (hx : p.tables.exec = Jvm.exec) (hb : c.code = code) (hr : meth.sig.returnType = ret) (hlocks : meth.locks = false) {pc : Nat} {H : Heap} {ls : Array Slot} (hdg : decode code pc = .ok (.ireturn, 1)) : W p l e room_1 s m #[Value.ref b] below meth c H [] 600000 7302250 (lw_Z below #[Value.ref b] s) (F0 m pc ls [.int 1]) := by
  intro T hT X
  obtain ⟨fs, hret, hrun, hended, hW, hframe⟩ := X.leave (v := some (.int 1)) (hlocks := hlocks) (fun h => by rw [hr] at h; cases h)
  have hmeth' : T.vm.method? m = some meth := X.method'
  refine ⟨T.setFrames fs, ?_, .returned (some (.int 1)), hrun, hended, rfl, ⟨_, rfl⟩, hW, hframe⟩
  jvm_step X.here [X.here.top, hx, hb, hdg, hmeth', hr, ret, narrow_b1]
  (try refine ⟨rfl, ?_⟩); (try refine ⟨rfl, ?_⟩)
  first | (intro acts; rw [hret _ acts rfl rfl rfl]) | rw [hret _ _ rfl rfl rfl]
  exact Steps.refl _
/-- what holds at the law's entry: the machine, the code, the tables' words (any of lw_tbl by 'hts w (by decide +kernel)'), the script of L ints xs at the cell b, what the Statement gives of the start (any of its parts by flat_of_before) -/
def lw_At (p : Program) (s : State) (m : MethodId) (meth : Method) (c : Code) (b L : Nat) (xs : Nat → Int32) : Prop :=
  p.tables.exec = Jvm.exec ∧ c.code = code ∧ meth.sig.returnType = ret ∧ c.maxLocals = 4 ∧ s.vm.findClass R_law = some m.cls ∧ (∀ w ∈ lw_tbl, w.before #[Value.ref b] s = true) ∧ va_X b L xs s s.heap ∧ b < s.heap.size ∧ meth.locks = false ∧ (Jvm.Cond.and given_1 narrow_1).before #[Value.ref b] s = true
/-- what the law's walk rests on, beside its entry: the tables, the two worlds' addresses -/
def CL (z : Cz) (b L : Nat) (xs : Nat → Int32) (αx αm : Nat → Nat) (D : va_G) (cA : Nat → ClassId) : Prop :=
  lw_At z.p z.s z.m z.meth z.c b L xs ∧ (∀ w ∈ tbG, w.before #[Value.ref b] z.s = true) ∧ va_K D clX (tys cA) z.s ∧ inj shX.length αx ∧ inj shM.length αm ∧ (∀ i j, i < shX.length → j < shM.length → αx i ≠ αm j) ∧ (∀ i, i < shX.length → z.s.heap.size ≤ αx i) ∧ ∀ j, j < shM.length → z.s.heap.size ≤ αm j
def LQ (z : Cz) (b : Nat) (αx αm : Nat → Nat) (D : va_G) (cA : Nat → ClassId) (ce sl : Nat) (σx σm : St) (pc : Nat) (lv : List (Nat × Value)) (st : List Value) : Prop :=
  ∀ (H : Heap) (locs : List Loc) (ls : Array Slot), va_P D clX (cels shX αx cA σx) H → va_P D clX (cels shM αm cA σm) H → va_S (fun q : Nat => z.s.heap.size ≤ q) z.s.heap H locs → lv_has ls 4 lv → W z.p z.l z.e room_1 z.s z.m #[Value.ref b] z.below z.meth z.c H locs ce sl (lw_Z z.below #[Value.ref b] z.s) (F0 z.m pc ls st)
theorem lwb_6 : (Int8.ofInt 6).toInt32 = (6 : Int32) := by decide +kernel
theorem lwb_63 : (Int8.ofInt 63).toInt32 = (63 : Int32) := by decide +kernel
theorem lwi_0 : Int32.ofInt 0 = (0 : Int32) := by decide +kernel
theorem lwi_1 : Int32.ofInt 1 = (1 : Int32) := by decide +kernel
theorem lwi_2 : Int32.ofInt 2 = (2 : Int32) := by decide +kernel
theorem lwi_3 : Int32.ofInt 3 = (3 : Int32) := by decide +kernel
theorem lwi_4 : Int32.ofInt 4 = (4 : Int32) := by decide +kernel
theorem lwi_5 : Int32.ofInt 5 = (5 : Int32) := by decide +kernel
theorem lwi_6 : Int32.ofInt 6 = (6 : Int32) := by decide +kernel
section LQs
variable {z : Cz} {b L : Nat} {xs : Nat → Int32} {αx αm : Nat → Nat} {D : va_G} {cA : Nat → ClassId} {ce sl : Nat} {σx σm : St} {pc : Nat} {lv : List (Nat × Value)} {st : List Value}
theorem LQ.loc {lv' : List (Nat × Value)} (h : LQ z b αx αm D cA ce sl σx σm pc lv' st) (ks : List Nat) (hl : lv_pick lv ks = lv') : LQ z b αx αm D cA ce sl σx σm pc lv st := fun H locs ls h1 h2 hS hh => h H locs ls h1 h2 hS (lv_sub hh ks hl)
theorem lq_iload (C : CL z b L xs αx αm D cA) {i : Fin 4} {j : Nat} {x : Int32} (k0 : Nat) (hd : decode code pc = .ok (.iload_n i, 1)) (hi : (i : Nat) = j) (hk : lv[k0]? = some (j, .int x)) (k : LQ z b αx αm D cA ce sl σx σm (pc + 1) lv (.int x :: st)) : LQ z b αx αm D cA ce sl σx σm pc lv st := fun H locs ls h1 h2 hS hl => lv_iload_n C.1.1 C.1.2.1 hd hi (lv_at hl k0 hk) (k H locs ls h1 h2 hS hl)
theorem lq_aload (C : CL z b L xs αx αm D cA) {i : Fin 4} {j : Nat} {x : Nat} (k0 : Nat) (hd : decode code pc = .ok (.aload_n i, 1)) (hi : (i : Nat) = j) (hk : lv[k0]? = some (j, .ref x)) (k : LQ z b αx αm D cA ce sl σx σm (pc + 1) lv (.ref x :: st)) : LQ z b αx αm D cA ce sl σx σm pc lv st := fun H locs ls h1 h2 hS hl => lv_aload_n C.1.1 C.1.2.1 hd hi (lv_at hl k0 hk) (k H locs ls h1 h2 hS hl)
theorem lq_iconst (C : CL z b L xs αx αm D cA) {n : Int} {v : Int32} (hd : decode code pc = .ok (.iconst n, 1)) (hv : Int32.ofInt n = v) (k : LQ z b αx αm D cA ce sl σx σm (pc + 1) lv (.int v :: st)) : LQ z b αx αm D cA ce sl σx σm pc lv st := fun H locs ls h1 h2 hS hl => lv_iconst C.1.1 C.1.2.1 hd hv (k H locs ls h1 h2 hS hl)
theorem lq_bipush (C : CL z b L xs αx αm D cA) {n : Int} {v : Int32} (hd : decode code pc = .ok (.bipush n, 2)) (hv : (Int8.ofInt n).toInt32 = v) (k : LQ z b αx αm D cA ce sl σx σm (pc + 2) lv (.int v :: st)) : LQ z b αx αm D cA ce sl σx σm pc lv st := fun H locs ls h1 h2 hS hl => lv_bipush C.1.1 C.1.2.1 hd hv (k H locs ls h1 h2 hS hl)
theorem lq_iadd (C : CL z b L xs αx αm D cA) {x y : Int32} (hd : decode code pc = .ok (.iadd, 1)) (k : LQ z b αx αm D cA ce sl σx σm (pc + 1) lv (.int (x + y) :: st)) : LQ z b αx αm D cA ce sl σx σm pc lv (.int y :: .int x :: st) := fun H locs ls h1 h2 hS hl => lv_iadd C.1.1 C.1.2.1 hd (k H locs ls h1 h2 hS hl)
theorem lq_isub (C : CL z b L xs αx αm D cA) {x y : Int32} (hd : decode code pc = .ok (.isub, 1)) (k : LQ z b αx αm D cA ce sl σx σm (pc + 1) lv (.int (x - y) :: st)) : LQ z b αx αm D cA ce sl σx σm pc lv (.int y :: .int x :: st) := fun H locs ls h1 h2 hS hl => lv_isub C.1.1 C.1.2.1 hd (k H locs ls h1 h2 hS hl)
theorem lq_iand (C : CL z b L xs αx αm D cA) {x y : Int32} (hd : decode code pc = .ok (.iand, 1)) (k : LQ z b αx αm D cA ce sl σx σm (pc + 1) lv (.int (x &&& y) :: st)) : LQ z b αx αm D cA ce sl σx σm pc lv (.int y :: .int x :: st) := fun H locs ls h1 h2 hS hl => lv_iand C.1.1 C.1.2.1 hd (k H locs ls h1 h2 hS hl)
theorem lq_new (h : ∀ q : Nat, z.s.heap.size ≤ q → (fun q : Nat => z.s.heap.size ≤ q) q) : True := trivial
theorem lq_sld (C : CL z b L xs αx αm D cA) {i : Int32} (hin : vp_in i L) (hd : decode code pc = .ok (.iaload, 1)) (k : LQ z b αx αm D cA ce sl σx σm (pc + 1) lv (.int (xs i.toNatClampNeg) :: st)) : LQ z b αx αm D cA ce sl σx σm pc lv (.int i :: .ref b :: st) := fun H locs ls h1 h2 hS hl => va_sld C.1.1 C.1.2.1 C.1.2.2.2.2.2.2.1 C.1.2.2.2.2.2.2.2.1 (Nat.not_le.mpr C.1.2.2.2.2.2.2.2.1) hS hin hd (k H locs ls h1 h2 hS hl)
theorem lq_slen (C : CL z b L xs αx αm D cA) (hd : decode code pc = .ok (.arraylength, 1)) (k : LQ z b αx αm D cA ce sl σx σm (pc + 1) lv (.int (Int32.ofNat L) :: st)) : LQ z b αx αm D cA ce sl σx σm pc lv (.ref b :: st) := fun H locs ls h1 h2 hS hl => va_slen C.1.1 C.1.2.1 C.1.2.2.2.2.2.2.1 C.1.2.2.2.2.2.2.2.1 (Nat.not_le.mpr C.1.2.2.2.2.2.2.2.1) hS hd (k H locs ls h1 h2 hS hl)
theorem lq_goto (C : CL z b L xs αx αm D cA) {off : Int} {tgt : Nat} (hd : decode code pc = .ok (.goto off, 3)) (ht : (pc : Int) + off = (tgt : Int)) (k : LQ z b αx αm D cA ce sl σx σm tgt lv st) : LQ z b αx αm D cA ce sl σx σm pc lv st := fun H locs ls h1 h2 hS hl => lv_goto C.1.1 C.1.2.1 hd ht (k H locs ls h1 h2 hS hl)
theorem lq_gt (C : CL z b L xs αx αm D cA) {x y : Int32} {off : Int} {tgt : Nat} (hd : decode code pc = .ok (.if_icmp .gt off, 3)) (ht : (pc : Int) + off = (tgt : Int)) (kt : y < x → LQ z b αx αm D cA ce sl σx σm tgt lv st) (kf : ¬ y < x → LQ z b αx αm D cA ce sl σx σm (pc + 3) lv st) : LQ z b αx αm D cA ce sl σx σm pc lv (.int y :: .int x :: st) := fun H locs ls h1 h2 hS hl => lv_icmp_gt C.1.1 C.1.2.1 hd ht (fun h => kt h H locs ls h1 h2 hS hl) (fun h => kf h H locs ls h1 h2 hS hl)
theorem lq_eq (C : CL z b L xs αx αm D cA) {x : Int32} {off : Int} {tgt : Nat} (hd : decode code pc = .ok (.if_icmp .eq off, 3)) (ht : (pc : Int) + off = (tgt : Int)) (kt : LQ z b αx αm D cA ce sl σx σm tgt lv st) : LQ z b αx αm D cA ce sl σx σm pc lv (.int x :: .int x :: st) := fun H locs ls h1 h2 hS hl => lv_icmp_eq C.1.1 C.1.2.1 hd ht (fun h => kt H locs ls h1 h2 hS hl) (fun h => absurd rfl h)
theorem lq_iinc (C : CL z b L xs αx αm D cA) {j k0 : Nat} {n : Int} {x v : Int32} (lv' : List (Nat × Value)) (hd : decode code pc = .ok (.iinc j n, 3)) (hk : lv[k0]? = some (j, .int x)) (hv : x + Int32.ofInt n = v) (hn : j < 4) (hl' : (j, Value.int v) :: lv.filter (fun q => !(q.1 == j) && !(q.1 + 1 == j && q.2.category == 2)) = lv') (k : LQ z b αx αm D cA ce sl σx σm (pc + 3) lv' st) : LQ z b αx αm D cA ce sl σx σm pc lv st := fun H locs ls h1 h2 hS hl => lv_iinc C.1.1 C.1.2.1 hd hl hk hv hn hl' (fun ls hl => k H locs ls h1 h2 hS hl)
theorem lq_tableIn (C : CL z b L xs αx αm D cA) {dflt lo1 hi1 : Int} {offs : Array Int} {len : Nat} {x : Int32} {off : Int} {tgt : Nat} (v : Int32) (hx : x = v) (hd : decode code pc = .ok (.tableswitch dflt lo1 hi1 offs, len)) (h1 : ¬ v.toInt < lo1) (h2 : ¬ hi1 < v.toInt) (ho : offs[(v.toInt - lo1).toNat]? = some off) (ht : (pc : Int) + off = (tgt : Int)) (k : LQ z b αx αm D cA ce sl σx σm tgt lv st) : LQ z b αx αm D cA ce sl σx σm pc lv (.int x :: st) := by
  subst hx
  exact fun H locs ls g1 g2 hS hl => lv_tableIn C.1.1 C.1.2.1 hd h1 h2 ho ht (k H locs ls g1 g2 hS hl)
theorem lq_tableOut (C : CL z b L xs αx αm D cA) {dflt lo1 hi1 : Int} {offs : Array Int} {len : Nat} {x : Int32} {tgt : Nat} (hd : decode code pc = .ok (.tableswitch dflt lo1 hi1 offs, len)) (h : x.toInt < lo1 ∨ hi1 < x.toInt) (ht : (pc : Int) + dflt = (tgt : Int)) (k : LQ z b αx αm D cA ce sl σx σm tgt lv st) : LQ z b αx αm D cA ce sl σx σm pc lv (.int x :: st) := fun H locs ls h1 h2 hS hl => lv_tableOut C.1.1 C.1.2.1 hd h ht (k H locs ls h1 h2 hS hl)
/-- a call: what isn't in the callee's world is as it was -/
theorem lq_run {ρ1 : Type} {em1 : ρ1 → Option Value} {shs : List Sh} {α : Nat → Nat} {r1 : ρ1} {σ1 : St} {H : Heap} {locs : List Loc} {ls : Array Slot} {st0 rest : List Value} {aa : Array Value} (hα : ∀ i, i < shs.length → z.s.heap.size ≤ α i) (hr : va_Run z.p z.l z.e room_1 z.s z.m #[Value.ref b] z.below z.meth z.c H locs ce sl 0 0 (F0 z.m pc ls st0) rest (qc em1 shs α D cA r1 σ1 aa) (axs shs.length α)) (hS : va_S (fun q : Nat => z.s.heap.size ≤ q) z.s.heap H locs)
    {Q : State → Prop} (kk : ∀ (H1 : Heap) (locs1 : List Loc), va_P D clX (cels shs α cA σ1) H1 → (∀ q : Nat, q < H.size → ¬ axs shs.length α q → H1[q]? = H[q]?) → va_S (fun q : Nat => z.s.heap.size ≤ q) z.s.heap H1 locs1 → W z.p z.l z.e room_1 z.s z.m #[Value.ref b] z.below z.meth z.c H1 locs1 ce sl Q (F0 z.m (pc + 3) ls ((em1 r1).toList ++ rest))) : W z.p z.l z.e room_1 z.s z.m #[Value.ref b] z.below z.meth z.c H locs ce sl Q (F0 z.m pc ls st0) := by
  have hA : ∀ q, axs shs.length α q → z.s.heap.size ≤ q := fun q ⟨o, h1, h2⟩ => by rw [h2]; exact hα o h1
  intro T hT X
  obtain ⟨v, st₀, t, T', L, h0, X', hL, e1, e2, ⟨⟨hv, hp, hk1⟩, hz, hk⟩, st⟩ := hr T hT X
  cases hv
  rw [h0] at hz hk
  obtain ⟨t2, a1, b1⟩ := kk T'.heap (locs ++ L) (by rw [e1]; exact hp) (fun q h1 h2 => by rw [e1]; exact hk q h1 h2)
    ⟨Nat.le_trans hS.1 (by rw [e1]; exact hz), fun q h1 h2 => by rw [e1, hk q (Nat.lt_of_lt_of_le h1 hS.1) (fun w => h2 (hA q w))]; exact hS.2.1 q h1 h2, fun q hq => by
      rcases List.mem_append.mp hq with h | h
      · exact hS.2.2 q h
      · exact hA _ (hL q h)⟩ T' rfl X'
  exact ⟨t2, st t2 a1, b1⟩
theorem lq_good {y : MethodName} {bytes : ByteArray} {maxL n idx : Nat} {ret1 : Option FieldType} (mf : MV y bytes maxL ret1 n) (hlk : Cond.methodLink R_law idx y ∈ tbG) : GoodIn tbG (wsV R_law idx y.cls y (.code y bytes maxL ret1 :: tbG)) := by
  obtain ⟨m1, m2, m3, m4, m5, m6, m7⟩ := mf
  intro w hw
  have hm : w ∈ tbG := by
    rcases List.mem_append.mp hw with h | h
    · rcases List.mem_cons.mp h with rfl | h
      · exact hlk
      · rcases List.mem_cons.mp h with rfl | h
        · exact m2
        · rcases List.mem_cons.mp h with rfl | h
          · exact m3
          · rcases List.mem_cons.mp h with rfl | h
            · exact m4
            · cases h
    · rcases List.mem_cons.mp h with rfl | h
      · exact m1
      · exact h
  exact tb_good w hm
theorem lq_callX (C : CL z b L xs αx αm D cA) {y : MethodName} {bytes : ByteArray} {maxL n ci N idx fr1 lo1 : Nat} {ret1 : Option FieldType} {T : u_T} {ks : List Nat} {f1 : Option (Int32 × St)} {r1 : Int32} {σ1 : St} (As rest : List Value) {stk : List Value} (hf : f1 = some (r1, σ1)) (hsl : ce ≤ 600000 ∧ sl ≤ 7302250)
    (hM : CT shX z.l y bytes maxL ret1 fr1 lo1 emI αx D cA (.ref (αx 0) :: As) σx f1) (mf : MV y bytes maxL ret1 n) (hlk : Cond.methodLink R_law idx y ∈ tbG) (hsh : shX[0]? = some (.inr (ci, ks))) (hcl : clX[ci]? = some (y.cls, T, N)) (hn : As.length = n) (hst : stk = As.reverse ++ .ref (αx 0) :: rest) (hcat : (rest.map fun v => v.category).sum ≤ 8) (hR : fr1 + 1 ≤ 2048 ∧ 8 + (maxL + 11) + lo1 ≤ 84000) (hd : decode code pc = .ok (.invokevirtual idx, 3))
    (kk : LQ z b αx αm D cA ce sl σ1 σm (pc + 3) lv (.int r1 :: rest)) : LQ z b αx αm D cA ce sl σx σm pc lv stk := by
  intro H locs ls hP1 hP2 hS hl
  have hg := lq_good mf hlk
  obtain ⟨m1, m2, m3, m4, m5, m6, m7⟩ := mf
  obtain ⟨C0, cts, cK, cix, cim, cdis, cx, cm⟩ := C
  refine lq_run cx (va_runV (rest := rest) (As := As) ⟨C0.1, C0.2.1, C0.2.2.2.1, C0.2.2.2.2.1, cts⟩ (hM r1 σ1 hf) (cwV n cts hg rfl rfl rfl ⟨rfl, m5, m6, m7⟩ hR) ⟨ct_blind, va_recv cK hP1 hcl (cels_at hsh), fun U hU hW => ⟨rfl, by rw [hU]; exact hP1, va_K.moved hW.alike cK⟩⟩ rfl hn hl.1 hst (lv_room hcat) hd hsl) hS (fun H1 locs1 hQ hk hS1 => ?_)
  refine kk H1 locs1 ls hQ (hP2.kept (fun k q hq => ?_)) hS1 hl
  obtain ⟨sh, h1, rfl⟩ := cels_of hq
  refine hk _ ((hP2 k _ hq).lt) (fun ⟨i, hi, e⟩ => cdis i k hi (cels_lt h1) e.symm)
theorem lq_callM (C : CL z b L xs αx αm D cA) {y : MethodName} {bytes : ByteArray} {maxL n ci N idx fr1 lo1 : Nat} {ret1 : Option FieldType} {T : u_T} {ks : List Nat} {f1 : Option (Int32 × St)} {r1 : Int32} {σ1 : St} (As rest : List Value) {stk : List Value} (hf : f1 = some (r1, σ1)) (hsl : ce ≤ 600000 ∧ sl ≤ 7302250)
    (hM : CT shM z.l y bytes maxL ret1 fr1 lo1 emI αm D cA (.ref (αm 0) :: As) σm f1) (mf : MV y bytes maxL ret1 n) (hlk : Cond.methodLink R_law idx y ∈ tbG) (hsh : shM[0]? = some (.inr (ci, ks))) (hcl : clX[ci]? = some (y.cls, T, N)) (hn : As.length = n) (hst : stk = As.reverse ++ .ref (αm 0) :: rest) (hcat : (rest.map fun v => v.category).sum ≤ 8) (hR : fr1 + 1 ≤ 2048 ∧ 8 + (maxL + 11) + lo1 ≤ 84000) (hd : decode code pc = .ok (.invokevirtual idx, 3))
    (kk : LQ z b αx αm D cA ce sl σx σ1 (pc + 3) lv (.int r1 :: rest)) : LQ z b αx αm D cA ce sl σx σm pc lv stk := by
  intro H locs ls hP1 hP2 hS hl
  have hg := lq_good mf hlk
  obtain ⟨m1, m2, m3, m4, m5, m6, m7⟩ := mf
  obtain ⟨C0, cts, cK, cix, cim, cdis, cx, cm⟩ := C
  refine lq_run cm (va_runV (rest := rest) (As := As) ⟨C0.1, C0.2.1, C0.2.2.2.1, C0.2.2.2.2.1, cts⟩ (hM r1 σ1 hf) (cwV n cts hg rfl rfl rfl ⟨rfl, m5, m6, m7⟩ hR) ⟨ct_blind, va_recv cK hP2 hcl (cels_at hsh), fun U hU hW => ⟨rfl, by rw [hU]; exact hP2, va_K.moved hW.alike cK⟩⟩ rfl hn hl.1 hst (lv_room hcat) hd hsl) hS (fun H1 locs1 hQ hk hS1 => ?_)
  refine kk H1 locs1 ls (hP1.kept (fun k q hq => ?_)) hQ hS1 hl
  obtain ⟨sh, h1, rfl⟩ := cels_of hq
  refine hk _ ((hP1 k _ hq).lt) (fun ⟨i, hi, e⟩ => cdis k i (cels_lt h1) hi e)
end LQs
def Step_0 (Rel : St → St → Prop) : Prop := (∀ (a0 a1 a2 a3 a4 : Int32) (σx σm : St), Rel σx σm → ∃ r σx' σm', f_X10_feed a0 a1 a2 a3 a4 σx = some (r, σx') ∧ f_X11_feed a0 a1 a2 a3 a4 σm = some (r, σm') ∧ Rel σx' σm')
def Step_1 (Rel : St → St → Prop) : Prop := (∀ (a0 : Int32) (σx σm : St), Rel σx σm → ∃ r σx' σm', f_X10_end a0 σx = some (r, σx') ∧ f_X11_end a0 σm = some (r, σm') ∧ Rel σx' σm')
def Step_2 (Rel : St → St → Prop) : Prop := (∀ (σx σm : St), Rel σx σm → ∃ r σx' σm', f_X10_land σx = some (r, σx') ∧ f_X11_land σm = some (r, σm') ∧ Rel σx' σm')
def Step_3 (Rel : St → St → Prop) : Prop := (∀ (a0 : Int32) (σx σm : St), Rel σx σm → ∃ r σx' σm', f_X10_fault a0 σx = some (r, σx') ∧ f_X11_fault a0 σm = some (r, σm') ∧ Rel σx' σm')
def Step_4 (Rel : St → St → Prop) : Prop := (∀ (a0 : Int32) (σx σm : St), Rel σx σm → ∃ r σx' σm', f_X10_has a0 σx = some (r, σx') ∧ f_X11_has a0 σm = some (r, σm') ∧ Rel σx' σm')
def Step_5 (Rel : St → St → Prop) : Prop := (∀ (a0 a1 a2 : Int32) (σx σm : St), Rel σx σm → ∃ r σx' σm', f_X10_letter a0 a1 a2 σx = some (r, σx') ∧ f_X11_letter a0 a1 a2 σm = some (r, σm') ∧ Rel σx' σm')
def Step_6 (Rel : St → St → Prop) : Prop := (∀ (a0 : Int32) (σx σm : St), Rel σx σm → ∃ r σx' σm', f_X10_ounces a0 σx = some (r, σx') ∧ f_X11_ounces a0 σm = some (r, σm') ∧ Rel σx' σm')
def Step_7 (Rel : St → St → Prop) : Prop := (∀ (a0 a1 : Int32) (σx σm : St), Rel σx σm → ∃ r σx' σm', f_X10_title a0 a1 σx = some (r, σx') ∧ f_X11_title_ a0 a1 σm = some (r, σm') ∧ Rel σx' σm')
def Step_8 (Rel : St → St → Prop) : Prop := (∀ (a0 a1 : Int32) (σx σm : St), Rel σx σm → ∃ r σx' σm', f_X10_person a0 a1 σx = some (r, σx') ∧ f_X11_person_ a0 a1 σm = some (r, σm') ∧ Rel σx' σm')
def Step_9 (Rel : St → St → Prop) : Prop := (∀ (a0 a1 : Int32) (σx σm : St), Rel σx σm → ∃ r σx' σm', f_X10_loose a0 a1 σx = some (r, σx') ∧ f_X11_loose a0 a1 σm = some (r, σm') ∧ Rel σx' σm')
def Step_10 (Rel : St → St → Prop) : Prop := (∀ (a0 : Int32) (σx σm : St), Rel σx σm → ∃ r σx' σm', f_X10_lead a0 σx = some (r, σx') ∧ f_X11_lead a0 σm = some (r, σm') ∧ Rel σx' σm')
def Step_11 (Rel : St → St → Prop) : Prop := (∀ (a0 a1 : Int32) (σx σm : St), Rel σx σm → ∃ r σx' σm', f_X10_gain a0 a1 σx = some (r, σx') ∧ f_X11_gain a0 a1 σm = some (r, σm') ∧ Rel σx' σm')
def Step_12 (Rel : St → St → Prop) : Prop := (∀ (a0 a1 : Int32) (σx σm : St), Rel σx σm → ∃ r σx' σm', f_X10_shed a0 a1 σx = some (r, σx') ∧ f_X11_shed a0 a1 σm = some (r, σm') ∧ Rel σx' σm')
def Step_13 (Rel : St → St → Prop) : Prop := (∀ (a0 a1 a2 : Int32) (σx σm : St), Rel σx σm → ∃ r σx' σm', f_X10_steal a0 a1 a2 σx = some (r, σx') ∧ f_X11_steal a0 a1 a2 σm = some (r, σm') ∧ Rel σx' σm')
def Step_14 (Rel : St → St → Prop) : Prop := (∀ (a0 a1 a2 a3 : Int32) (σx σm : St), Rel σx σm → ∃ r σx' σm', f_X10_trade a0 a1 a2 a3 σx = some (r, σx') ∧ f_X11_trade a0 a1 a2 a3 σm = some (r, σm') ∧ Rel σx' σm')
def Step_15 (Rel : St → St → Prop) : Prop := (∀ (a0 a1 a2 : Int32) (σx σm : St), Rel σx σm → ∃ r σx' σm', f_X10_lend a0 a1 a2 σx = some (r, σx') ∧ f_X11_lend a0 a1 a2 σm = some (r, σm') ∧ Rel σx' σm')
def Step_16 (Rel : St → St → Prop) : Prop := (∀ (a0 : Int32) (σx σm : St), Rel σx σm → ∃ r σx' σm', f_X10_giveBack a0 σx = some (r, σx') ∧ f_X11_giveBack a0 σm = some (r, σm') ∧ Rel σx' σm')
def Step_17 (Rel : St → St → Prop) : Prop := (∀ (a0 a1 : Int32) (σx σm : St), Rel σx σm → ∃ r σx' σm', f_X10_loan a0 a1 σx = some (r, σx') ∧ f_X11_loan a0 a1 σm = some (r, σm') ∧ Rel σx' σm')
def Step_18 (Rel : St → St → Prop) : Prop := (∀ (a0 : Int32) (σx σm : St), Rel σx σm → ∃ r σx' σm', f_X10_drown a0 σx = some (r, σx') ∧ f_X11_drown a0 σm = some (r, σm') ∧ Rel σx' σm')
def Step_19 (Rel : St → St → Prop) : Prop := (∀ (a0 a1 : Int32) (σx σm : St), Rel σx σm → ∃ r σx' σm', f_X10_melt a0 a1 σx = some (r, σx') ∧ f_X11_melt a0 a1 σm = some (r, σm') ∧ Rel σx' σm')
def Step_20 (Rel : St → St → Prop) : Prop := (∀ (a0 a1 : Int32) (σx σm : St), Rel σx σm → ∃ r σx' σm', f_X10_heir a0 a1 σx = some (r, σx') ∧ f_X11_heir a0 a1 σm = some (r, σm') ∧ Rel σx' σm')
def Step_21 (Rel : St → St → Prop) : Prop := (∀ (a0 : Int32) (σx σm : St), Rel σx σm → ∃ r σx' σm', f_X10_years a0 σx = some (r, σx') ∧ f_X11_years a0 σm = some (r, σm') ∧ Rel σx' σm')
def Step_22 (Rel : St → St → Prop) : Prop := (∀ (σx σm : St), Rel σx σm → ∃ r σx' σm', f_X10_feast σx = some (r, σx') ∧ f_X11_feast σm = some (r, σm') ∧ Rel σx' σm')
def Step_23 (Rel : St → St → Prop) : Prop := (∀ (a0 : Int32) (σx σm : St), Rel σx σm → ∃ r σx' σm', f_X10_seed a0 σx = some (r, σx') ∧ f_X11_seed a0 σm = some (r, σm') ∧ Rel σx' σm')
def Step_24 (Rel : St → St → Prop) : Prop := (∀ (a0 a1 : Int32) (σx σm : St), Rel σx σm → ∃ r σx' σm', f_X10_signed a0 a1 σx = some (r, σx') ∧ f_X11_signed a0 a1 σm = some (r, σm') ∧ Rel σx' σm')
def Step_25 (Rel : St → St → Prop) : Prop := (∀ (a0 a1 : Int32) (σx σm : St), Rel σx σm → ∃ r σx' σm', f_X10_span a0 a1 σx = some (r, σx') ∧ f_X11_span a0 a1 σm = some (r, σm') ∧ Rel σx' σm')
def Step_26 (Rel : St → St → Prop) : Prop := (∀ (a0 a1 : Int32) (σx σm : St), Rel σx σm → ∃ r σx' σm', f_X10_moved a0 a1 σx = some (r, σx') ∧ f_X11_moved a0 a1 σm = some (r, σm') ∧ Rel σx' σm')
def Step_27 (Rel : St → St → Prop) : Prop := (∀ (a0 a1 a2 : Int32) (σx σm : St), Rel σx σm → ∃ r σx' σm', f_X10_share a0 a1 a2 σx = some (r, σx') ∧ f_X11_share a0 a1 a2 σm = some (r, σm') ∧ Rel σx' σm')
def Step_28 (Rel : St → St → Prop) : Prop := (∀ (a0 a1 : Int32) (σx σm : St), Rel σx σm → ∃ r σx' σm', f_X10_bullets a0 a1 σx = some (r, σx') ∧ f_X11_bullets a0 a1 σm = some (r, σm') ∧ Rel σx' σm')
def Step_29 (Rel : St → St → Prop) : Prop := (∀ (a0 a1 a2 : Int32) (σx σm : St), Rel σx σm → ∃ r σx' σm', f_X10_row a0 a1 a2 σx = some (r, σx') ∧ f_X11_row a0 a1 a2 σm = some (r, σm') ∧ Rel σx' σm')
def Step_30 (Rel : St → St → Prop) : Prop := (∀ (a0 a1 : Int32) (σx σm : St), Rel σx σm → ∃ r σx' σm', f_X10_goings a0 a1 σx = some (r, σx') ∧ f_X11_goings a0 a1 σm = some (r, σm') ∧ Rel σx' σm')
def Step_31 (Rel : St → St → Prop) : Prop := (∀ (a0 a1 : Int32) (σx σm : St), Rel σx σm → ∃ r σx' σm', f_X10_common a0 a1 σx = some (r, σx') ∧ f_X11_common a0 a1 σm = some (r, σm') ∧ Rel σx' σm')
def Step_32 (Rel : St → St → Prop) : Prop := (∀ (σx σm : St), Rel σx σm → ∃ r σx' σm', f_X10_image σx = some (r, σx') ∧ f_X11_image σm = some (r, σm') ∧ Rel σx' σm')
def Step_33 (Rel : St → St → Prop) : Prop := (∀ (a0 : Int32) (σx σm : St), Rel σx σm → ∃ r σx' σm', f_X10_octet a0 σx = some (r, σx') ∧ f_X11_octet a0 σm = some (r, σm') ∧ Rel σx' σm')
def Step_34 (Rel : St → St → Prop) : Prop := (∀ (σx σm : St), Rel σx σm → ∃ r σx' σm', f_X10_on σx = some (r, σx') ∧ f_X11_on σm = some (r, σm') ∧ Rel σx' σm')
def Step_35 (Rel : St → St → Prop) : Prop := (∀ (a0 : Int32) (σx σm : St), Rel σx σm → ∃ r σx' σm', f_X10_status a0 σx = some (r, σx') ∧ f_X11_status a0 σm = some (r, σm') ∧ Rel σx' σm')
def StepAll (Rel : St → St → Prop) : Prop := Step_0 Rel ∧ Step_1 Rel ∧ Step_2 Rel ∧ Step_3 Rel ∧ Step_4 Rel ∧ Step_5 Rel ∧ Step_6 Rel ∧ Step_7 Rel ∧ Step_8 Rel ∧ Step_9 Rel ∧ Step_10 Rel ∧ Step_11 Rel ∧ Step_12 Rel ∧ Step_13 Rel ∧ Step_14 Rel ∧ Step_15 Rel ∧ Step_16 Rel ∧ Step_17 Rel ∧ Step_18 Rel ∧ Step_19 Rel ∧ Step_20 Rel ∧ Step_21 Rel ∧ Step_22 Rel ∧ Step_23 Rel ∧ Step_24 Rel ∧ Step_25 Rel ∧ Step_26 Rel ∧ Step_27 Rel ∧ Step_28 Rel ∧ Step_29 Rel ∧ Step_30 Rel ∧ Step_31 Rel ∧ Step_32 Rel ∧ Step_33 Rel ∧ Step_34 Rel ∧ Step_35 Rel
set_option maxRecDepth 100000 in
set_option maxHeartbeats 4000000 in
theorem law_c0 {z : Cz} {b L : Nat} {xs : Nat → Int32} {αx αm : Nat → Nat} {D : va_G} {cA : Nat → ClassId} {ce sl : Nat} {Rel : St → St → Prop} (C : CL z b L xs αx αm D cA) (hsl : ce ≤ 600000 ∧ sl ≤ 7302250) (hs : Step_0 Rel) {x3 : Int32} (h1 : vp_in (x3 + 1) L) (h2 : vp_in (x3 + 2) L) (h3 : vp_in (x3 + 3) L) (h4 : vp_in (x3 + 4) L) (h5 : vp_in (x3 + 5) L)
    {σx σm : St} (hR : Rel σx σm) (kk : ∀ σx σm, Rel σx σm → LQ z b αx αm D cA ce sl σx σm 1290 [(3, .int x3), (2, .ref (αm 0)), (1, .ref (αx 0)), (0, .ref b)] []) : LQ z b αx αm D cA ce sl σx σm 192 [(3, .int x3), (2, .ref (αm 0)), (1, .ref (αx 0)), (0, .ref b)] [] := by
  obtain ⟨r, σx1, σm1, e1, e2, hR1⟩ := hs (xs (x3 + 1).toNatClampNeg) (xs (x3 + 2).toNatClampNeg) (xs (x3 + 3).toNatClampNeg) (xs (x3 + 4).toNatClampNeg) (xs (x3 + 5).toNatClampNeg) σx σm hR
  refine lq_aload C 2 dL_law_192 rfl rfl ?_
  refine lq_aload C 3 dL_law_193 rfl rfl ?_
  refine lq_iload C 0 dL_law_194 rfl rfl ?_
  refine lq_iconst C dL_law_195 lwi_1 ?_
  refine lq_iadd C dL_law_196 ?_
  refine lq_sld C h1 dL_law_197 ?_
  refine lq_aload C 3 dL_law_198 rfl rfl ?_
  refine lq_iload C 0 dL_law_199 rfl rfl ?_
  refine lq_iconst C dL_law_200 lwi_2 ?_
  refine lq_iadd C dL_law_201 ?_
  refine lq_sld C h2 dL_law_202 ?_
  refine lq_aload C 3 dL_law_203 rfl rfl ?_
  refine lq_iload C 0 dL_law_204 rfl rfl ?_
  refine lq_iconst C dL_law_205 lwi_3 ?_
  refine lq_iadd C dL_law_206 ?_
  refine lq_sld C h3 dL_law_207 ?_
  refine lq_aload C 3 dL_law_208 rfl rfl ?_
  refine lq_iload C 0 dL_law_209 rfl rfl ?_
  refine lq_iconst C dL_law_210 lwi_4 ?_
  refine lq_iadd C dL_law_211 ?_
  refine lq_sld C h4 dL_law_212 ?_
  refine lq_aload C 3 dL_law_213 rfl rfl ?_
  refine lq_iload C 0 dL_law_214 rfl rfl ?_
  refine lq_iconst C dL_law_215 lwi_5 ?_
  refine lq_iadd C dL_law_216 ?_
  refine lq_sld C h5 dL_law_217 ?_
  refine lq_callX C [.int (xs (x3 + 1).toNatClampNeg), .int (xs (x3 + 2).toNatClampNeg), .int (xs (x3 + 3).toNatClampNeg), .int (xs (x3 + 4).toNatClampNeg), .int (xs (x3 + 5).toNatClampNeg)] [] e1 hsl (m_X10_feed z.l C.2.2.2.1 (xs (x3 + 1).toNatClampNeg) (xs (x3 + 2).toNatClampNeg) (xs (x3 + 3).toNatClampNeg) (xs (x3 + 4).toNatClampNeg) (xs (x3 + 5).toNatClampNeg) σx) mv_X10_feed lk_L_13 sx_0 rfl rfl rfl (Nat.le_of_ble_eq_true rfl) ⟨Nat.le_of_ble_eq_true rfl, Nat.le_of_ble_eq_true rfl⟩ dL_law_218 ?_
  refine lq_aload C 1 dL_law_221 rfl rfl ?_
  refine lq_aload C 3 dL_law_222 rfl rfl ?_
  refine lq_iload C 0 dL_law_223 rfl rfl ?_
  refine lq_iconst C dL_law_224 lwi_1 ?_
  refine lq_iadd C dL_law_225 ?_
  refine lq_sld C h1 dL_law_226 ?_
  refine lq_aload C 3 dL_law_227 rfl rfl ?_
  refine lq_iload C 0 dL_law_228 rfl rfl ?_
  refine lq_iconst C dL_law_229 lwi_2 ?_
  refine lq_iadd C dL_law_230 ?_
  refine lq_sld C h2 dL_law_231 ?_
  refine lq_aload C 3 dL_law_232 rfl rfl ?_
  refine lq_iload C 0 dL_law_233 rfl rfl ?_
  refine lq_iconst C dL_law_234 lwi_3 ?_
  refine lq_iadd C dL_law_235 ?_
  refine lq_sld C h3 dL_law_236 ?_
  refine lq_aload C 3 dL_law_237 rfl rfl ?_
  refine lq_iload C 0 dL_law_238 rfl rfl ?_
  refine lq_iconst C dL_law_239 lwi_4 ?_
  refine lq_iadd C dL_law_240 ?_
  refine lq_sld C h4 dL_law_241 ?_
  refine lq_aload C 3 dL_law_242 rfl rfl ?_
  refine lq_iload C 0 dL_law_243 rfl rfl ?_
  refine lq_iconst C dL_law_244 lwi_5 ?_
  refine lq_iadd C dL_law_245 ?_
  refine lq_sld C h5 dL_law_246 ?_
  refine lq_callM C [.int (xs (x3 + 1).toNatClampNeg), .int (xs (x3 + 2).toNatClampNeg), .int (xs (x3 + 3).toNatClampNeg), .int (xs (x3 + 4).toNatClampNeg), .int (xs (x3 + 5).toNatClampNeg)] [.int r] e2 hsl (m_X11_feed z.l C.2.2.2.2.1 (xs (x3 + 1).toNatClampNeg) (xs (x3 + 2).toNatClampNeg) (xs (x3 + 3).toNatClampNeg) (xs (x3 + 4).toNatClampNeg) (xs (x3 + 5).toNatClampNeg) σm) mv_X11_feed lk_L_17 sm_0 rfl rfl rfl (Nat.le_of_ble_eq_true rfl) ⟨Nat.le_of_ble_eq_true rfl, Nat.le_of_ble_eq_true rfl⟩ dL_law_247 ?_
  refine lq_eq C (tgt := 1290) dL_law_250 (by decide) ?_
  exact kk σx1 σm1 hR1
set_option maxRecDepth 100000 in
set_option maxHeartbeats 4000000 in
theorem law_c1 {z : Cz} {b L : Nat} {xs : Nat → Int32} {αx αm : Nat → Nat} {D : va_G} {cA : Nat → ClassId} {ce sl : Nat} {Rel : St → St → Prop} (C : CL z b L xs αx αm D cA) (hsl : ce ≤ 600000 ∧ sl ≤ 7302250) (hs : Step_1 Rel) {x3 : Int32} (h1 : vp_in (x3 + 1) L) (h2 : vp_in (x3 + 2) L) (h3 : vp_in (x3 + 3) L) (h4 : vp_in (x3 + 4) L) (h5 : vp_in (x3 + 5) L)
    {σx σm : St} (hR : Rel σx σm) (kk : ∀ σx σm, Rel σx σm → LQ z b αx αm D cA ce sl σx σm 1290 [(3, .int x3), (2, .ref (αm 0)), (1, .ref (αx 0)), (0, .ref b)] []) : LQ z b αx αm D cA ce sl σx σm 255 [(3, .int x3), (2, .ref (αm 0)), (1, .ref (αx 0)), (0, .ref b)] [] := by
  obtain ⟨r, σx1, σm1, e1, e2, hR1⟩ := hs (xs (x3 + 1).toNatClampNeg) σx σm hR
  refine lq_aload C 2 dL_law_255 rfl rfl ?_
  refine lq_aload C 3 dL_law_256 rfl rfl ?_
  refine lq_iload C 0 dL_law_257 rfl rfl ?_
  refine lq_iconst C dL_law_258 lwi_1 ?_
  refine lq_iadd C dL_law_259 ?_
  refine lq_sld C h1 dL_law_260 ?_
  refine lq_callX C [.int (xs (x3 + 1).toNatClampNeg)] [] e1 hsl (m_X10_end z.l C.2.2.2.1 (xs (x3 + 1).toNatClampNeg) σx) mv_X10_end lk_L_18 sx_0 rfl rfl rfl (Nat.le_of_ble_eq_true rfl) ⟨Nat.le_of_ble_eq_true rfl, Nat.le_of_ble_eq_true rfl⟩ dL_law_261 ?_
  refine lq_aload C 1 dL_law_264 rfl rfl ?_
  refine lq_aload C 3 dL_law_265 rfl rfl ?_
  refine lq_iload C 0 dL_law_266 rfl rfl ?_
  refine lq_iconst C dL_law_267 lwi_1 ?_
  refine lq_iadd C dL_law_268 ?_
  refine lq_sld C h1 dL_law_269 ?_
  refine lq_callM C [.int (xs (x3 + 1).toNatClampNeg)] [.int r] e2 hsl (m_X11_end z.l C.2.2.2.2.1 (xs (x3 + 1).toNatClampNeg) σm) mv_X11_end lk_L_22 sm_0 rfl rfl rfl (Nat.le_of_ble_eq_true rfl) ⟨Nat.le_of_ble_eq_true rfl, Nat.le_of_ble_eq_true rfl⟩ dL_law_270 ?_
  refine lq_eq C (tgt := 1290) dL_law_273 (by decide) ?_
  exact kk σx1 σm1 hR1
set_option maxRecDepth 100000 in
set_option maxHeartbeats 4000000 in
theorem law_c2 {z : Cz} {b L : Nat} {xs : Nat → Int32} {αx αm : Nat → Nat} {D : va_G} {cA : Nat → ClassId} {ce sl : Nat} {Rel : St → St → Prop} (C : CL z b L xs αx αm D cA) (hsl : ce ≤ 600000 ∧ sl ≤ 7302250) (hs : Step_2 Rel) {x3 : Int32} (h1 : vp_in (x3 + 1) L) (h2 : vp_in (x3 + 2) L) (h3 : vp_in (x3 + 3) L) (h4 : vp_in (x3 + 4) L) (h5 : vp_in (x3 + 5) L)
    {σx σm : St} (hR : Rel σx σm) (kk : ∀ σx σm, Rel σx σm → LQ z b αx αm D cA ce sl σx σm 1290 [(3, .int x3), (2, .ref (αm 0)), (1, .ref (αx 0)), (0, .ref b)] []) : LQ z b αx αm D cA ce sl σx σm 278 [(3, .int x3), (2, .ref (αm 0)), (1, .ref (αx 0)), (0, .ref b)] [] := by
  obtain ⟨r, σx1, σm1, e1, e2, hR1⟩ := hs σx σm hR
  refine lq_aload C 2 dL_law_278 rfl rfl ?_
  refine lq_callX C [] [] e1 hsl (m_X10_land z.l C.2.2.2.1 σx) mv_X10_land lk_L_23 sx_0 rfl rfl rfl (Nat.le_of_ble_eq_true rfl) ⟨Nat.le_of_ble_eq_true rfl, Nat.le_of_ble_eq_true rfl⟩ dL_law_279 ?_
  refine lq_aload C 1 dL_law_282 rfl rfl ?_
  refine lq_callM C [] [.int r] e2 hsl (m_X11_land z.l C.2.2.2.2.1 σm) mv_X11_land lk_L_27 sm_0 rfl rfl rfl (Nat.le_of_ble_eq_true rfl) ⟨Nat.le_of_ble_eq_true rfl, Nat.le_of_ble_eq_true rfl⟩ dL_law_283 ?_
  refine lq_eq C (tgt := 1290) dL_law_286 (by decide) ?_
  exact kk σx1 σm1 hR1
set_option maxRecDepth 100000 in
set_option maxHeartbeats 4000000 in
theorem law_c3 {z : Cz} {b L : Nat} {xs : Nat → Int32} {αx αm : Nat → Nat} {D : va_G} {cA : Nat → ClassId} {ce sl : Nat} {Rel : St → St → Prop} (C : CL z b L xs αx αm D cA) (hsl : ce ≤ 600000 ∧ sl ≤ 7302250) (hs : Step_3 Rel) {x3 : Int32} (h1 : vp_in (x3 + 1) L) (h2 : vp_in (x3 + 2) L) (h3 : vp_in (x3 + 3) L) (h4 : vp_in (x3 + 4) L) (h5 : vp_in (x3 + 5) L)
    {σx σm : St} (hR : Rel σx σm) (kk : ∀ σx σm, Rel σx σm → LQ z b αx αm D cA ce sl σx σm 1290 [(3, .int x3), (2, .ref (αm 0)), (1, .ref (αx 0)), (0, .ref b)] []) : LQ z b αx αm D cA ce sl σx σm 291 [(3, .int x3), (2, .ref (αm 0)), (1, .ref (αx 0)), (0, .ref b)] [] := by
  obtain ⟨r, σx1, σm1, e1, e2, hR1⟩ := hs (xs (x3 + 1).toNatClampNeg) σx σm hR
  refine lq_aload C 2 dL_law_291 rfl rfl ?_
  refine lq_aload C 3 dL_law_292 rfl rfl ?_
  refine lq_iload C 0 dL_law_293 rfl rfl ?_
  refine lq_iconst C dL_law_294 lwi_1 ?_
  refine lq_iadd C dL_law_295 ?_
  refine lq_sld C h1 dL_law_296 ?_
  refine lq_callX C [.int (xs (x3 + 1).toNatClampNeg)] [] e1 hsl (m_X10_fault z.l C.2.2.2.1 (xs (x3 + 1).toNatClampNeg) σx) mv_X10_fault lk_L_28 sx_0 rfl rfl rfl (Nat.le_of_ble_eq_true rfl) ⟨Nat.le_of_ble_eq_true rfl, Nat.le_of_ble_eq_true rfl⟩ dL_law_297 ?_
  refine lq_aload C 1 dL_law_300 rfl rfl ?_
  refine lq_aload C 3 dL_law_301 rfl rfl ?_
  refine lq_iload C 0 dL_law_302 rfl rfl ?_
  refine lq_iconst C dL_law_303 lwi_1 ?_
  refine lq_iadd C dL_law_304 ?_
  refine lq_sld C h1 dL_law_305 ?_
  refine lq_callM C [.int (xs (x3 + 1).toNatClampNeg)] [.int r] e2 hsl (m_X11_fault z.l C.2.2.2.2.1 (xs (x3 + 1).toNatClampNeg) σm) mv_X11_fault lk_L_32 sm_0 rfl rfl rfl (Nat.le_of_ble_eq_true rfl) ⟨Nat.le_of_ble_eq_true rfl, Nat.le_of_ble_eq_true rfl⟩ dL_law_306 ?_
  refine lq_eq C (tgt := 1290) dL_law_309 (by decide) ?_
  exact kk σx1 σm1 hR1
set_option maxRecDepth 100000 in
set_option maxHeartbeats 4000000 in
theorem law_c4 {z : Cz} {b L : Nat} {xs : Nat → Int32} {αx αm : Nat → Nat} {D : va_G} {cA : Nat → ClassId} {ce sl : Nat} {Rel : St → St → Prop} (C : CL z b L xs αx αm D cA) (hsl : ce ≤ 600000 ∧ sl ≤ 7302250) (hs : Step_4 Rel) {x3 : Int32} (h1 : vp_in (x3 + 1) L) (h2 : vp_in (x3 + 2) L) (h3 : vp_in (x3 + 3) L) (h4 : vp_in (x3 + 4) L) (h5 : vp_in (x3 + 5) L)
    {σx σm : St} (hR : Rel σx σm) (kk : ∀ σx σm, Rel σx σm → LQ z b αx αm D cA ce sl σx σm 1290 [(3, .int x3), (2, .ref (αm 0)), (1, .ref (αx 0)), (0, .ref b)] []) : LQ z b αx αm D cA ce sl σx σm 314 [(3, .int x3), (2, .ref (αm 0)), (1, .ref (αx 0)), (0, .ref b)] [] := by
  obtain ⟨r, σx1, σm1, e1, e2, hR1⟩ := hs (xs (x3 + 1).toNatClampNeg) σx σm hR
  refine lq_aload C 2 dL_law_314 rfl rfl ?_
  refine lq_aload C 3 dL_law_315 rfl rfl ?_
  refine lq_iload C 0 dL_law_316 rfl rfl ?_
  refine lq_iconst C dL_law_317 lwi_1 ?_
  refine lq_iadd C dL_law_318 ?_
  refine lq_sld C h1 dL_law_319 ?_
  refine lq_callX C [.int (xs (x3 + 1).toNatClampNeg)] [] e1 hsl (m_X10_has z.l C.2.2.2.1 (xs (x3 + 1).toNatClampNeg) σx) mv_X10_has lk_L_33 sx_0 rfl rfl rfl (Nat.le_of_ble_eq_true rfl) ⟨Nat.le_of_ble_eq_true rfl, Nat.le_of_ble_eq_true rfl⟩ dL_law_320 ?_
  refine lq_aload C 1 dL_law_323 rfl rfl ?_
  refine lq_aload C 3 dL_law_324 rfl rfl ?_
  refine lq_iload C 0 dL_law_325 rfl rfl ?_
  refine lq_iconst C dL_law_326 lwi_1 ?_
  refine lq_iadd C dL_law_327 ?_
  refine lq_sld C h1 dL_law_328 ?_
  refine lq_callM C [.int (xs (x3 + 1).toNatClampNeg)] [.int r] e2 hsl (m_X11_has z.l C.2.2.2.2.1 (xs (x3 + 1).toNatClampNeg) σm) mv_X11_has lk_L_36 sm_0 rfl rfl rfl (Nat.le_of_ble_eq_true rfl) ⟨Nat.le_of_ble_eq_true rfl, Nat.le_of_ble_eq_true rfl⟩ dL_law_329 ?_
  refine lq_eq C (tgt := 1290) dL_law_332 (by decide) ?_
  exact kk σx1 σm1 hR1
set_option maxRecDepth 100000 in
set_option maxHeartbeats 4000000 in
theorem law_c5 {z : Cz} {b L : Nat} {xs : Nat → Int32} {αx αm : Nat → Nat} {D : va_G} {cA : Nat → ClassId} {ce sl : Nat} {Rel : St → St → Prop} (C : CL z b L xs αx αm D cA) (hsl : ce ≤ 600000 ∧ sl ≤ 7302250) (hs : Step_5 Rel) {x3 : Int32} (h1 : vp_in (x3 + 1) L) (h2 : vp_in (x3 + 2) L) (h3 : vp_in (x3 + 3) L) (h4 : vp_in (x3 + 4) L) (h5 : vp_in (x3 + 5) L)
    {σx σm : St} (hR : Rel σx σm) (kk : ∀ σx σm, Rel σx σm → LQ z b αx αm D cA ce sl σx σm 1290 [(3, .int x3), (2, .ref (αm 0)), (1, .ref (αx 0)), (0, .ref b)] []) : LQ z b αx αm D cA ce sl σx σm 337 [(3, .int x3), (2, .ref (αm 0)), (1, .ref (αx 0)), (0, .ref b)] [] := by
  obtain ⟨r, σx1, σm1, e1, e2, hR1⟩ := hs (xs (x3 + 1).toNatClampNeg) (xs (x3 + 2).toNatClampNeg) (xs (x3 + 3).toNatClampNeg) σx σm hR
  refine lq_aload C 2 dL_law_337 rfl rfl ?_
  refine lq_aload C 3 dL_law_338 rfl rfl ?_
  refine lq_iload C 0 dL_law_339 rfl rfl ?_
  refine lq_iconst C dL_law_340 lwi_1 ?_
  refine lq_iadd C dL_law_341 ?_
  refine lq_sld C h1 dL_law_342 ?_
  refine lq_aload C 3 dL_law_343 rfl rfl ?_
  refine lq_iload C 0 dL_law_344 rfl rfl ?_
  refine lq_iconst C dL_law_345 lwi_2 ?_
  refine lq_iadd C dL_law_346 ?_
  refine lq_sld C h2 dL_law_347 ?_
  refine lq_aload C 3 dL_law_348 rfl rfl ?_
  refine lq_iload C 0 dL_law_349 rfl rfl ?_
  refine lq_iconst C dL_law_350 lwi_3 ?_
  refine lq_iadd C dL_law_351 ?_
  refine lq_sld C h3 dL_law_352 ?_
  refine lq_callX C [.int (xs (x3 + 1).toNatClampNeg), .int (xs (x3 + 2).toNatClampNeg), .int (xs (x3 + 3).toNatClampNeg)] [] e1 hsl (m_X10_letter z.l C.2.2.2.1 (xs (x3 + 1).toNatClampNeg) (xs (x3 + 2).toNatClampNeg) (xs (x3 + 3).toNatClampNeg) σx) mv_X10_letter lk_L_37 sx_0 rfl rfl rfl (Nat.le_of_ble_eq_true rfl) ⟨Nat.le_of_ble_eq_true rfl, Nat.le_of_ble_eq_true rfl⟩ dL_law_353 ?_
  refine lq_aload C 1 dL_law_356 rfl rfl ?_
  refine lq_aload C 3 dL_law_357 rfl rfl ?_
  refine lq_iload C 0 dL_law_358 rfl rfl ?_
  refine lq_iconst C dL_law_359 lwi_1 ?_
  refine lq_iadd C dL_law_360 ?_
  refine lq_sld C h1 dL_law_361 ?_
  refine lq_aload C 3 dL_law_362 rfl rfl ?_
  refine lq_iload C 0 dL_law_363 rfl rfl ?_
  refine lq_iconst C dL_law_364 lwi_2 ?_
  refine lq_iadd C dL_law_365 ?_
  refine lq_sld C h2 dL_law_366 ?_
  refine lq_aload C 3 dL_law_367 rfl rfl ?_
  refine lq_iload C 0 dL_law_368 rfl rfl ?_
  refine lq_iconst C dL_law_369 lwi_3 ?_
  refine lq_iadd C dL_law_370 ?_
  refine lq_sld C h3 dL_law_371 ?_
  refine lq_callM C [.int (xs (x3 + 1).toNatClampNeg), .int (xs (x3 + 2).toNatClampNeg), .int (xs (x3 + 3).toNatClampNeg)] [.int r] e2 hsl (m_X11_letter z.l C.2.2.2.2.1 (xs (x3 + 1).toNatClampNeg) (xs (x3 + 2).toNatClampNeg) (xs (x3 + 3).toNatClampNeg) σm) mv_X11_letter lk_L_41 sm_0 rfl rfl rfl (Nat.le_of_ble_eq_true rfl) ⟨Nat.le_of_ble_eq_true rfl, Nat.le_of_ble_eq_true rfl⟩ dL_law_372 ?_
  refine lq_eq C (tgt := 1290) dL_law_375 (by decide) ?_
  exact kk σx1 σm1 hR1
set_option maxRecDepth 100000 in
set_option maxHeartbeats 4000000 in
theorem law_c6 {z : Cz} {b L : Nat} {xs : Nat → Int32} {αx αm : Nat → Nat} {D : va_G} {cA : Nat → ClassId} {ce sl : Nat} {Rel : St → St → Prop} (C : CL z b L xs αx αm D cA) (hsl : ce ≤ 600000 ∧ sl ≤ 7302250) (hs : Step_6 Rel) {x3 : Int32} (h1 : vp_in (x3 + 1) L) (h2 : vp_in (x3 + 2) L) (h3 : vp_in (x3 + 3) L) (h4 : vp_in (x3 + 4) L) (h5 : vp_in (x3 + 5) L)
    {σx σm : St} (hR : Rel σx σm) (kk : ∀ σx σm, Rel σx σm → LQ z b αx αm D cA ce sl σx σm 1290 [(3, .int x3), (2, .ref (αm 0)), (1, .ref (αx 0)), (0, .ref b)] []) : LQ z b αx αm D cA ce sl σx σm 380 [(3, .int x3), (2, .ref (αm 0)), (1, .ref (αx 0)), (0, .ref b)] [] := by
  obtain ⟨r, σx1, σm1, e1, e2, hR1⟩ := hs (xs (x3 + 1).toNatClampNeg) σx σm hR
  refine lq_aload C 2 dL_law_380 rfl rfl ?_
  refine lq_aload C 3 dL_law_381 rfl rfl ?_
  refine lq_iload C 0 dL_law_382 rfl rfl ?_
  refine lq_iconst C dL_law_383 lwi_1 ?_
  refine lq_iadd C dL_law_384 ?_
  refine lq_sld C h1 dL_law_385 ?_
  refine lq_callX C [.int (xs (x3 + 1).toNatClampNeg)] [] e1 hsl (m_X10_ounces z.l C.2.2.2.1 (xs (x3 + 1).toNatClampNeg) σx) mv_X10_ounces lk_L_42 sx_0 rfl rfl rfl (Nat.le_of_ble_eq_true rfl) ⟨Nat.le_of_ble_eq_true rfl, Nat.le_of_ble_eq_true rfl⟩ dL_law_386 ?_
  refine lq_aload C 1 dL_law_389 rfl rfl ?_
  refine lq_aload C 3 dL_law_390 rfl rfl ?_
  refine lq_iload C 0 dL_law_391 rfl rfl ?_
  refine lq_iconst C dL_law_392 lwi_1 ?_
  refine lq_iadd C dL_law_393 ?_
  refine lq_sld C h1 dL_law_394 ?_
  refine lq_callM C [.int (xs (x3 + 1).toNatClampNeg)] [.int r] e2 hsl (m_X11_ounces z.l C.2.2.2.2.1 (xs (x3 + 1).toNatClampNeg) σm) mv_X11_ounces lk_L_45 sm_0 rfl rfl rfl (Nat.le_of_ble_eq_true rfl) ⟨Nat.le_of_ble_eq_true rfl, Nat.le_of_ble_eq_true rfl⟩ dL_law_395 ?_
  refine lq_eq C (tgt := 1290) dL_law_398 (by decide) ?_
  exact kk σx1 σm1 hR1
set_option maxRecDepth 100000 in
set_option maxHeartbeats 4000000 in
theorem law_c7 {z : Cz} {b L : Nat} {xs : Nat → Int32} {αx αm : Nat → Nat} {D : va_G} {cA : Nat → ClassId} {ce sl : Nat} {Rel : St → St → Prop} (C : CL z b L xs αx αm D cA) (hsl : ce ≤ 600000 ∧ sl ≤ 7302250) (hs : Step_7 Rel) {x3 : Int32} (h1 : vp_in (x3 + 1) L) (h2 : vp_in (x3 + 2) L) (h3 : vp_in (x3 + 3) L) (h4 : vp_in (x3 + 4) L) (h5 : vp_in (x3 + 5) L)
    {σx σm : St} (hR : Rel σx σm) (kk : ∀ σx σm, Rel σx σm → LQ z b αx αm D cA ce sl σx σm 1290 [(3, .int x3), (2, .ref (αm 0)), (1, .ref (αx 0)), (0, .ref b)] []) : LQ z b αx αm D cA ce sl σx σm 403 [(3, .int x3), (2, .ref (αm 0)), (1, .ref (αx 0)), (0, .ref b)] [] := by
  obtain ⟨r, σx1, σm1, e1, e2, hR1⟩ := hs (xs (x3 + 1).toNatClampNeg) (xs (x3 + 2).toNatClampNeg) σx σm hR
  refine lq_aload C 2 dL_law_403 rfl rfl ?_
  refine lq_aload C 3 dL_law_404 rfl rfl ?_
  refine lq_iload C 0 dL_law_405 rfl rfl ?_
  refine lq_iconst C dL_law_406 lwi_1 ?_
  refine lq_iadd C dL_law_407 ?_
  refine lq_sld C h1 dL_law_408 ?_
  refine lq_aload C 3 dL_law_409 rfl rfl ?_
  refine lq_iload C 0 dL_law_410 rfl rfl ?_
  refine lq_iconst C dL_law_411 lwi_2 ?_
  refine lq_iadd C dL_law_412 ?_
  refine lq_sld C h2 dL_law_413 ?_
  refine lq_callX C [.int (xs (x3 + 1).toNatClampNeg), .int (xs (x3 + 2).toNatClampNeg)] [] e1 hsl (m_X10_title z.l C.2.2.2.1 (xs (x3 + 1).toNatClampNeg) (xs (x3 + 2).toNatClampNeg) σx) mv_X10_title lk_L_46 sx_0 rfl rfl rfl (Nat.le_of_ble_eq_true rfl) ⟨Nat.le_of_ble_eq_true rfl, Nat.le_of_ble_eq_true rfl⟩ dL_law_414 ?_
  refine lq_aload C 1 dL_law_417 rfl rfl ?_
  refine lq_aload C 3 dL_law_418 rfl rfl ?_
  refine lq_iload C 0 dL_law_419 rfl rfl ?_
  refine lq_iconst C dL_law_420 lwi_1 ?_
  refine lq_iadd C dL_law_421 ?_
  refine lq_sld C h1 dL_law_422 ?_
  refine lq_aload C 3 dL_law_423 rfl rfl ?_
  refine lq_iload C 0 dL_law_424 rfl rfl ?_
  refine lq_iconst C dL_law_425 lwi_2 ?_
  refine lq_iadd C dL_law_426 ?_
  refine lq_sld C h2 dL_law_427 ?_
  refine lq_callM C [.int (xs (x3 + 1).toNatClampNeg), .int (xs (x3 + 2).toNatClampNeg)] [.int r] e2 hsl (m_X11_title_ z.l C.2.2.2.2.1 (xs (x3 + 1).toNatClampNeg) (xs (x3 + 2).toNatClampNeg) σm) mv_X11_title_ lk_L_50 sm_0 rfl rfl rfl (Nat.le_of_ble_eq_true rfl) ⟨Nat.le_of_ble_eq_true rfl, Nat.le_of_ble_eq_true rfl⟩ dL_law_428 ?_
  refine lq_eq C (tgt := 1290) dL_law_431 (by decide) ?_
  exact kk σx1 σm1 hR1
set_option maxRecDepth 100000 in
set_option maxHeartbeats 4000000 in
theorem law_c8 {z : Cz} {b L : Nat} {xs : Nat → Int32} {αx αm : Nat → Nat} {D : va_G} {cA : Nat → ClassId} {ce sl : Nat} {Rel : St → St → Prop} (C : CL z b L xs αx αm D cA) (hsl : ce ≤ 600000 ∧ sl ≤ 7302250) (hs : Step_8 Rel) {x3 : Int32} (h1 : vp_in (x3 + 1) L) (h2 : vp_in (x3 + 2) L) (h3 : vp_in (x3 + 3) L) (h4 : vp_in (x3 + 4) L) (h5 : vp_in (x3 + 5) L)
    {σx σm : St} (hR : Rel σx σm) (kk : ∀ σx σm, Rel σx σm → LQ z b αx αm D cA ce sl σx σm 1290 [(3, .int x3), (2, .ref (αm 0)), (1, .ref (αx 0)), (0, .ref b)] []) : LQ z b αx αm D cA ce sl σx σm 436 [(3, .int x3), (2, .ref (αm 0)), (1, .ref (αx 0)), (0, .ref b)] [] := by
  obtain ⟨r, σx1, σm1, e1, e2, hR1⟩ := hs (xs (x3 + 1).toNatClampNeg) (xs (x3 + 2).toNatClampNeg) σx σm hR
  refine lq_aload C 2 dL_law_436 rfl rfl ?_
  refine lq_aload C 3 dL_law_437 rfl rfl ?_
  refine lq_iload C 0 dL_law_438 rfl rfl ?_
  refine lq_iconst C dL_law_439 lwi_1 ?_
  refine lq_iadd C dL_law_440 ?_
  refine lq_sld C h1 dL_law_441 ?_
  refine lq_aload C 3 dL_law_442 rfl rfl ?_
  refine lq_iload C 0 dL_law_443 rfl rfl ?_
  refine lq_iconst C dL_law_444 lwi_2 ?_
  refine lq_iadd C dL_law_445 ?_
  refine lq_sld C h2 dL_law_446 ?_
  refine lq_callX C [.int (xs (x3 + 1).toNatClampNeg), .int (xs (x3 + 2).toNatClampNeg)] [] e1 hsl (m_X10_person z.l C.2.2.2.1 (xs (x3 + 1).toNatClampNeg) (xs (x3 + 2).toNatClampNeg) σx) mv_X10_person lk_L_51 sx_0 rfl rfl rfl (Nat.le_of_ble_eq_true rfl) ⟨Nat.le_of_ble_eq_true rfl, Nat.le_of_ble_eq_true rfl⟩ dL_law_447 ?_
  refine lq_aload C 1 dL_law_450 rfl rfl ?_
  refine lq_aload C 3 dL_law_451 rfl rfl ?_
  refine lq_iload C 0 dL_law_452 rfl rfl ?_
  refine lq_iconst C dL_law_453 lwi_1 ?_
  refine lq_iadd C dL_law_454 ?_
  refine lq_sld C h1 dL_law_455 ?_
  refine lq_aload C 3 dL_law_456 rfl rfl ?_
  refine lq_iload C 0 dL_law_457 rfl rfl ?_
  refine lq_iconst C dL_law_458 lwi_2 ?_
  refine lq_iadd C dL_law_459 ?_
  refine lq_sld C h2 dL_law_460 ?_
  refine lq_callM C [.int (xs (x3 + 1).toNatClampNeg), .int (xs (x3 + 2).toNatClampNeg)] [.int r] e2 hsl (m_X11_person_ z.l C.2.2.2.2.1 (xs (x3 + 1).toNatClampNeg) (xs (x3 + 2).toNatClampNeg) σm) mv_X11_person_ lk_L_54 sm_0 rfl rfl rfl (Nat.le_of_ble_eq_true rfl) ⟨Nat.le_of_ble_eq_true rfl, Nat.le_of_ble_eq_true rfl⟩ dL_law_461 ?_
  refine lq_eq C (tgt := 1290) dL_law_464 (by decide) ?_
  exact kk σx1 σm1 hR1
set_option maxRecDepth 100000 in
set_option maxHeartbeats 4000000 in
theorem law_c9 {z : Cz} {b L : Nat} {xs : Nat → Int32} {αx αm : Nat → Nat} {D : va_G} {cA : Nat → ClassId} {ce sl : Nat} {Rel : St → St → Prop} (C : CL z b L xs αx αm D cA) (hsl : ce ≤ 600000 ∧ sl ≤ 7302250) (hs : Step_9 Rel) {x3 : Int32} (h1 : vp_in (x3 + 1) L) (h2 : vp_in (x3 + 2) L) (h3 : vp_in (x3 + 3) L) (h4 : vp_in (x3 + 4) L) (h5 : vp_in (x3 + 5) L)
    {σx σm : St} (hR : Rel σx σm) (kk : ∀ σx σm, Rel σx σm → LQ z b αx αm D cA ce sl σx σm 1290 [(3, .int x3), (2, .ref (αm 0)), (1, .ref (αx 0)), (0, .ref b)] []) : LQ z b αx αm D cA ce sl σx σm 469 [(3, .int x3), (2, .ref (αm 0)), (1, .ref (αx 0)), (0, .ref b)] [] := by
  obtain ⟨r, σx1, σm1, e1, e2, hR1⟩ := hs (xs (x3 + 1).toNatClampNeg) (xs (x3 + 2).toNatClampNeg) σx σm hR
  refine lq_aload C 2 dL_law_469 rfl rfl ?_
  refine lq_aload C 3 dL_law_470 rfl rfl ?_
  refine lq_iload C 0 dL_law_471 rfl rfl ?_
  refine lq_iconst C dL_law_472 lwi_1 ?_
  refine lq_iadd C dL_law_473 ?_
  refine lq_sld C h1 dL_law_474 ?_
  refine lq_aload C 3 dL_law_475 rfl rfl ?_
  refine lq_iload C 0 dL_law_476 rfl rfl ?_
  refine lq_iconst C dL_law_477 lwi_2 ?_
  refine lq_iadd C dL_law_478 ?_
  refine lq_sld C h2 dL_law_479 ?_
  refine lq_callX C [.int (xs (x3 + 1).toNatClampNeg), .int (xs (x3 + 2).toNatClampNeg)] [] e1 hsl (m_X10_loose z.l C.2.2.2.1 (xs (x3 + 1).toNatClampNeg) (xs (x3 + 2).toNatClampNeg) σx) mv_X10_loose lk_L_55 sx_0 rfl rfl rfl (Nat.le_of_ble_eq_true rfl) ⟨Nat.le_of_ble_eq_true rfl, Nat.le_of_ble_eq_true rfl⟩ dL_law_480 ?_
  refine lq_aload C 1 dL_law_483 rfl rfl ?_
  refine lq_aload C 3 dL_law_484 rfl rfl ?_
  refine lq_iload C 0 dL_law_485 rfl rfl ?_
  refine lq_iconst C dL_law_486 lwi_1 ?_
  refine lq_iadd C dL_law_487 ?_
  refine lq_sld C h1 dL_law_488 ?_
  refine lq_aload C 3 dL_law_489 rfl rfl ?_
  refine lq_iload C 0 dL_law_490 rfl rfl ?_
  refine lq_iconst C dL_law_491 lwi_2 ?_
  refine lq_iadd C dL_law_492 ?_
  refine lq_sld C h2 dL_law_493 ?_
  refine lq_callM C [.int (xs (x3 + 1).toNatClampNeg), .int (xs (x3 + 2).toNatClampNeg)] [.int r] e2 hsl (m_X11_loose z.l C.2.2.2.2.1 (xs (x3 + 1).toNatClampNeg) (xs (x3 + 2).toNatClampNeg) σm) mv_X11_loose lk_L_58 sm_0 rfl rfl rfl (Nat.le_of_ble_eq_true rfl) ⟨Nat.le_of_ble_eq_true rfl, Nat.le_of_ble_eq_true rfl⟩ dL_law_494 ?_
  refine lq_eq C (tgt := 1290) dL_law_497 (by decide) ?_
  exact kk σx1 σm1 hR1
set_option maxRecDepth 100000 in
set_option maxHeartbeats 4000000 in
theorem law_c10 {z : Cz} {b L : Nat} {xs : Nat → Int32} {αx αm : Nat → Nat} {D : va_G} {cA : Nat → ClassId} {ce sl : Nat} {Rel : St → St → Prop} (C : CL z b L xs αx αm D cA) (hsl : ce ≤ 600000 ∧ sl ≤ 7302250) (hs : Step_10 Rel) {x3 : Int32} (h1 : vp_in (x3 + 1) L) (h2 : vp_in (x3 + 2) L) (h3 : vp_in (x3 + 3) L) (h4 : vp_in (x3 + 4) L) (h5 : vp_in (x3 + 5) L)
    {σx σm : St} (hR : Rel σx σm) (kk : ∀ σx σm, Rel σx σm → LQ z b αx αm D cA ce sl σx σm 1290 [(3, .int x3), (2, .ref (αm 0)), (1, .ref (αx 0)), (0, .ref b)] []) : LQ z b αx αm D cA ce sl σx σm 502 [(3, .int x3), (2, .ref (αm 0)), (1, .ref (αx 0)), (0, .ref b)] [] := by
  obtain ⟨r, σx1, σm1, e1, e2, hR1⟩ := hs (xs (x3 + 1).toNatClampNeg) σx σm hR
  refine lq_aload C 2 dL_law_502 rfl rfl ?_
  refine lq_aload C 3 dL_law_503 rfl rfl ?_
  refine lq_iload C 0 dL_law_504 rfl rfl ?_
  refine lq_iconst C dL_law_505 lwi_1 ?_
  refine lq_iadd C dL_law_506 ?_
  refine lq_sld C h1 dL_law_507 ?_
  refine lq_callX C [.int (xs (x3 + 1).toNatClampNeg)] [] e1 hsl (m_X10_lead z.l C.2.2.2.1 (xs (x3 + 1).toNatClampNeg) σx) mv_X10_lead lk_L_59 sx_0 rfl rfl rfl (Nat.le_of_ble_eq_true rfl) ⟨Nat.le_of_ble_eq_true rfl, Nat.le_of_ble_eq_true rfl⟩ dL_law_508 ?_
  refine lq_aload C 1 dL_law_511 rfl rfl ?_
  refine lq_aload C 3 dL_law_512 rfl rfl ?_
  refine lq_iload C 0 dL_law_513 rfl rfl ?_
  refine lq_iconst C dL_law_514 lwi_1 ?_
  refine lq_iadd C dL_law_515 ?_
  refine lq_sld C h1 dL_law_516 ?_
  refine lq_callM C [.int (xs (x3 + 1).toNatClampNeg)] [.int r] e2 hsl (m_X11_lead z.l C.2.2.2.2.1 (xs (x3 + 1).toNatClampNeg) σm) mv_X11_lead lk_L_62 sm_0 rfl rfl rfl (Nat.le_of_ble_eq_true rfl) ⟨Nat.le_of_ble_eq_true rfl, Nat.le_of_ble_eq_true rfl⟩ dL_law_517 ?_
  refine lq_eq C (tgt := 1290) dL_law_520 (by decide) ?_
  exact kk σx1 σm1 hR1
set_option maxRecDepth 100000 in
set_option maxHeartbeats 4000000 in
theorem law_c11 {z : Cz} {b L : Nat} {xs : Nat → Int32} {αx αm : Nat → Nat} {D : va_G} {cA : Nat → ClassId} {ce sl : Nat} {Rel : St → St → Prop} (C : CL z b L xs αx αm D cA) (hsl : ce ≤ 600000 ∧ sl ≤ 7302250) (hs : Step_11 Rel) {x3 : Int32} (h1 : vp_in (x3 + 1) L) (h2 : vp_in (x3 + 2) L) (h3 : vp_in (x3 + 3) L) (h4 : vp_in (x3 + 4) L) (h5 : vp_in (x3 + 5) L)
    {σx σm : St} (hR : Rel σx σm) (kk : ∀ σx σm, Rel σx σm → LQ z b αx αm D cA ce sl σx σm 1290 [(3, .int x3), (2, .ref (αm 0)), (1, .ref (αx 0)), (0, .ref b)] []) : LQ z b αx αm D cA ce sl σx σm 525 [(3, .int x3), (2, .ref (αm 0)), (1, .ref (αx 0)), (0, .ref b)] [] := by
  obtain ⟨r, σx1, σm1, e1, e2, hR1⟩ := hs (xs (x3 + 1).toNatClampNeg) (xs (x3 + 2).toNatClampNeg) σx σm hR
  refine lq_aload C 2 dL_law_525 rfl rfl ?_
  refine lq_aload C 3 dL_law_526 rfl rfl ?_
  refine lq_iload C 0 dL_law_527 rfl rfl ?_
  refine lq_iconst C dL_law_528 lwi_1 ?_
  refine lq_iadd C dL_law_529 ?_
  refine lq_sld C h1 dL_law_530 ?_
  refine lq_aload C 3 dL_law_531 rfl rfl ?_
  refine lq_iload C 0 dL_law_532 rfl rfl ?_
  refine lq_iconst C dL_law_533 lwi_2 ?_
  refine lq_iadd C dL_law_534 ?_
  refine lq_sld C h2 dL_law_535 ?_
  refine lq_callX C [.int (xs (x3 + 1).toNatClampNeg), .int (xs (x3 + 2).toNatClampNeg)] [] e1 hsl (m_X10_gain z.l C.2.2.2.1 (xs (x3 + 1).toNatClampNeg) (xs (x3 + 2).toNatClampNeg) σx) mv_X10_gain lk_L_63 sx_0 rfl rfl rfl (Nat.le_of_ble_eq_true rfl) ⟨Nat.le_of_ble_eq_true rfl, Nat.le_of_ble_eq_true rfl⟩ dL_law_536 ?_
  refine lq_aload C 1 dL_law_539 rfl rfl ?_
  refine lq_aload C 3 dL_law_540 rfl rfl ?_
  refine lq_iload C 0 dL_law_541 rfl rfl ?_
  refine lq_iconst C dL_law_542 lwi_1 ?_
  refine lq_iadd C dL_law_543 ?_
  refine lq_sld C h1 dL_law_544 ?_
  refine lq_aload C 3 dL_law_545 rfl rfl ?_
  refine lq_iload C 0 dL_law_546 rfl rfl ?_
  refine lq_iconst C dL_law_547 lwi_2 ?_
  refine lq_iadd C dL_law_548 ?_
  refine lq_sld C h2 dL_law_549 ?_
  refine lq_callM C [.int (xs (x3 + 1).toNatClampNeg), .int (xs (x3 + 2).toNatClampNeg)] [.int r] e2 hsl (m_X11_gain z.l C.2.2.2.2.1 (xs (x3 + 1).toNatClampNeg) (xs (x3 + 2).toNatClampNeg) σm) mv_X11_gain lk_L_66 sm_0 rfl rfl rfl (Nat.le_of_ble_eq_true rfl) ⟨Nat.le_of_ble_eq_true rfl, Nat.le_of_ble_eq_true rfl⟩ dL_law_550 ?_
  refine lq_eq C (tgt := 1290) dL_law_553 (by decide) ?_
  exact kk σx1 σm1 hR1
set_option maxRecDepth 100000 in
set_option maxHeartbeats 4000000 in
theorem law_c12 {z : Cz} {b L : Nat} {xs : Nat → Int32} {αx αm : Nat → Nat} {D : va_G} {cA : Nat → ClassId} {ce sl : Nat} {Rel : St → St → Prop} (C : CL z b L xs αx αm D cA) (hsl : ce ≤ 600000 ∧ sl ≤ 7302250) (hs : Step_12 Rel) {x3 : Int32} (h1 : vp_in (x3 + 1) L) (h2 : vp_in (x3 + 2) L) (h3 : vp_in (x3 + 3) L) (h4 : vp_in (x3 + 4) L) (h5 : vp_in (x3 + 5) L)
    {σx σm : St} (hR : Rel σx σm) (kk : ∀ σx σm, Rel σx σm → LQ z b αx αm D cA ce sl σx σm 1290 [(3, .int x3), (2, .ref (αm 0)), (1, .ref (αx 0)), (0, .ref b)] []) : LQ z b αx αm D cA ce sl σx σm 558 [(3, .int x3), (2, .ref (αm 0)), (1, .ref (αx 0)), (0, .ref b)] [] := by
  obtain ⟨r, σx1, σm1, e1, e2, hR1⟩ := hs (xs (x3 + 1).toNatClampNeg) (xs (x3 + 2).toNatClampNeg) σx σm hR
  refine lq_aload C 2 dL_law_558 rfl rfl ?_
  refine lq_aload C 3 dL_law_559 rfl rfl ?_
  refine lq_iload C 0 dL_law_560 rfl rfl ?_
  refine lq_iconst C dL_law_561 lwi_1 ?_
  refine lq_iadd C dL_law_562 ?_
  refine lq_sld C h1 dL_law_563 ?_
  refine lq_aload C 3 dL_law_564 rfl rfl ?_
  refine lq_iload C 0 dL_law_565 rfl rfl ?_
  refine lq_iconst C dL_law_566 lwi_2 ?_
  refine lq_iadd C dL_law_567 ?_
  refine lq_sld C h2 dL_law_568 ?_
  refine lq_callX C [.int (xs (x3 + 1).toNatClampNeg), .int (xs (x3 + 2).toNatClampNeg)] [] e1 hsl (m_X10_shed z.l C.2.2.2.1 (xs (x3 + 1).toNatClampNeg) (xs (x3 + 2).toNatClampNeg) σx) mv_X10_shed lk_L_67 sx_0 rfl rfl rfl (Nat.le_of_ble_eq_true rfl) ⟨Nat.le_of_ble_eq_true rfl, Nat.le_of_ble_eq_true rfl⟩ dL_law_569 ?_
  refine lq_aload C 1 dL_law_572 rfl rfl ?_
  refine lq_aload C 3 dL_law_573 rfl rfl ?_
  refine lq_iload C 0 dL_law_574 rfl rfl ?_
  refine lq_iconst C dL_law_575 lwi_1 ?_
  refine lq_iadd C dL_law_576 ?_
  refine lq_sld C h1 dL_law_577 ?_
  refine lq_aload C 3 dL_law_578 rfl rfl ?_
  refine lq_iload C 0 dL_law_579 rfl rfl ?_
  refine lq_iconst C dL_law_580 lwi_2 ?_
  refine lq_iadd C dL_law_581 ?_
  refine lq_sld C h2 dL_law_582 ?_
  refine lq_callM C [.int (xs (x3 + 1).toNatClampNeg), .int (xs (x3 + 2).toNatClampNeg)] [.int r] e2 hsl (m_X11_shed z.l C.2.2.2.2.1 (xs (x3 + 1).toNatClampNeg) (xs (x3 + 2).toNatClampNeg) σm) mv_X11_shed lk_L_70 sm_0 rfl rfl rfl (Nat.le_of_ble_eq_true rfl) ⟨Nat.le_of_ble_eq_true rfl, Nat.le_of_ble_eq_true rfl⟩ dL_law_583 ?_
  refine lq_eq C (tgt := 1290) dL_law_586 (by decide) ?_
  exact kk σx1 σm1 hR1
set_option maxRecDepth 100000 in
set_option maxHeartbeats 4000000 in
theorem law_c13 {z : Cz} {b L : Nat} {xs : Nat → Int32} {αx αm : Nat → Nat} {D : va_G} {cA : Nat → ClassId} {ce sl : Nat} {Rel : St → St → Prop} (C : CL z b L xs αx αm D cA) (hsl : ce ≤ 600000 ∧ sl ≤ 7302250) (hs : Step_13 Rel) {x3 : Int32} (h1 : vp_in (x3 + 1) L) (h2 : vp_in (x3 + 2) L) (h3 : vp_in (x3 + 3) L) (h4 : vp_in (x3 + 4) L) (h5 : vp_in (x3 + 5) L)
    {σx σm : St} (hR : Rel σx σm) (kk : ∀ σx σm, Rel σx σm → LQ z b αx αm D cA ce sl σx σm 1290 [(3, .int x3), (2, .ref (αm 0)), (1, .ref (αx 0)), (0, .ref b)] []) : LQ z b αx αm D cA ce sl σx σm 591 [(3, .int x3), (2, .ref (αm 0)), (1, .ref (αx 0)), (0, .ref b)] [] := by
  obtain ⟨r, σx1, σm1, e1, e2, hR1⟩ := hs (xs (x3 + 1).toNatClampNeg) (xs (x3 + 2).toNatClampNeg) (xs (x3 + 3).toNatClampNeg) σx σm hR
  refine lq_aload C 2 dL_law_591 rfl rfl ?_
  refine lq_aload C 3 dL_law_592 rfl rfl ?_
  refine lq_iload C 0 dL_law_593 rfl rfl ?_
  refine lq_iconst C dL_law_594 lwi_1 ?_
  refine lq_iadd C dL_law_595 ?_
  refine lq_sld C h1 dL_law_596 ?_
  refine lq_aload C 3 dL_law_597 rfl rfl ?_
  refine lq_iload C 0 dL_law_598 rfl rfl ?_
  refine lq_iconst C dL_law_599 lwi_2 ?_
  refine lq_iadd C dL_law_600 ?_
  refine lq_sld C h2 dL_law_601 ?_
  refine lq_aload C 3 dL_law_602 rfl rfl ?_
  refine lq_iload C 0 dL_law_603 rfl rfl ?_
  refine lq_iconst C dL_law_604 lwi_3 ?_
  refine lq_iadd C dL_law_605 ?_
  refine lq_sld C h3 dL_law_606 ?_
  refine lq_callX C [.int (xs (x3 + 1).toNatClampNeg), .int (xs (x3 + 2).toNatClampNeg), .int (xs (x3 + 3).toNatClampNeg)] [] e1 hsl (m_X10_steal z.l C.2.2.2.1 (xs (x3 + 1).toNatClampNeg) (xs (x3 + 2).toNatClampNeg) (xs (x3 + 3).toNatClampNeg) σx) mv_X10_steal lk_L_71 sx_0 rfl rfl rfl (Nat.le_of_ble_eq_true rfl) ⟨Nat.le_of_ble_eq_true rfl, Nat.le_of_ble_eq_true rfl⟩ dL_law_607 ?_
  refine lq_aload C 1 dL_law_610 rfl rfl ?_
  refine lq_aload C 3 dL_law_611 rfl rfl ?_
  refine lq_iload C 0 dL_law_612 rfl rfl ?_
  refine lq_iconst C dL_law_613 lwi_1 ?_
  refine lq_iadd C dL_law_614 ?_
  refine lq_sld C h1 dL_law_615 ?_
  refine lq_aload C 3 dL_law_616 rfl rfl ?_
  refine lq_iload C 0 dL_law_617 rfl rfl ?_
  refine lq_iconst C dL_law_618 lwi_2 ?_
  refine lq_iadd C dL_law_619 ?_
  refine lq_sld C h2 dL_law_620 ?_
  refine lq_aload C 3 dL_law_621 rfl rfl ?_
  refine lq_iload C 0 dL_law_622 rfl rfl ?_
  refine lq_iconst C dL_law_623 lwi_3 ?_
  refine lq_iadd C dL_law_624 ?_
  refine lq_sld C h3 dL_law_625 ?_
  refine lq_callM C [.int (xs (x3 + 1).toNatClampNeg), .int (xs (x3 + 2).toNatClampNeg), .int (xs (x3 + 3).toNatClampNeg)] [.int r] e2 hsl (m_X11_steal z.l C.2.2.2.2.1 (xs (x3 + 1).toNatClampNeg) (xs (x3 + 2).toNatClampNeg) (xs (x3 + 3).toNatClampNeg) σm) mv_X11_steal lk_L_75 sm_0 rfl rfl rfl (Nat.le_of_ble_eq_true rfl) ⟨Nat.le_of_ble_eq_true rfl, Nat.le_of_ble_eq_true rfl⟩ dL_law_626 ?_
  refine lq_eq C (tgt := 1290) dL_law_629 (by decide) ?_
  exact kk σx1 σm1 hR1
set_option maxRecDepth 100000 in
set_option maxHeartbeats 4000000 in
theorem law_c14 {z : Cz} {b L : Nat} {xs : Nat → Int32} {αx αm : Nat → Nat} {D : va_G} {cA : Nat → ClassId} {ce sl : Nat} {Rel : St → St → Prop} (C : CL z b L xs αx αm D cA) (hsl : ce ≤ 600000 ∧ sl ≤ 7302250) (hs : Step_14 Rel) {x3 : Int32} (h1 : vp_in (x3 + 1) L) (h2 : vp_in (x3 + 2) L) (h3 : vp_in (x3 + 3) L) (h4 : vp_in (x3 + 4) L) (h5 : vp_in (x3 + 5) L)
    {σx σm : St} (hR : Rel σx σm) (kk : ∀ σx σm, Rel σx σm → LQ z b αx αm D cA ce sl σx σm 1290 [(3, .int x3), (2, .ref (αm 0)), (1, .ref (αx 0)), (0, .ref b)] []) : LQ z b αx αm D cA ce sl σx σm 634 [(3, .int x3), (2, .ref (αm 0)), (1, .ref (αx 0)), (0, .ref b)] [] := by
  obtain ⟨r, σx1, σm1, e1, e2, hR1⟩ := hs (xs (x3 + 1).toNatClampNeg) (xs (x3 + 2).toNatClampNeg) (xs (x3 + 3).toNatClampNeg) (xs (x3 + 4).toNatClampNeg) σx σm hR
  refine lq_aload C 2 dL_law_634 rfl rfl ?_
  refine lq_aload C 3 dL_law_635 rfl rfl ?_
  refine lq_iload C 0 dL_law_636 rfl rfl ?_
  refine lq_iconst C dL_law_637 lwi_1 ?_
  refine lq_iadd C dL_law_638 ?_
  refine lq_sld C h1 dL_law_639 ?_
  refine lq_aload C 3 dL_law_640 rfl rfl ?_
  refine lq_iload C 0 dL_law_641 rfl rfl ?_
  refine lq_iconst C dL_law_642 lwi_2 ?_
  refine lq_iadd C dL_law_643 ?_
  refine lq_sld C h2 dL_law_644 ?_
  refine lq_aload C 3 dL_law_645 rfl rfl ?_
  refine lq_iload C 0 dL_law_646 rfl rfl ?_
  refine lq_iconst C dL_law_647 lwi_3 ?_
  refine lq_iadd C dL_law_648 ?_
  refine lq_sld C h3 dL_law_649 ?_
  refine lq_aload C 3 dL_law_650 rfl rfl ?_
  refine lq_iload C 0 dL_law_651 rfl rfl ?_
  refine lq_iconst C dL_law_652 lwi_4 ?_
  refine lq_iadd C dL_law_653 ?_
  refine lq_sld C h4 dL_law_654 ?_
  refine lq_callX C [.int (xs (x3 + 1).toNatClampNeg), .int (xs (x3 + 2).toNatClampNeg), .int (xs (x3 + 3).toNatClampNeg), .int (xs (x3 + 4).toNatClampNeg)] [] e1 hsl (m_X10_trade z.l C.2.2.2.1 (xs (x3 + 1).toNatClampNeg) (xs (x3 + 2).toNatClampNeg) (xs (x3 + 3).toNatClampNeg) (xs (x3 + 4).toNatClampNeg) σx) mv_X10_trade lk_L_76 sx_0 rfl rfl rfl (Nat.le_of_ble_eq_true rfl) ⟨Nat.le_of_ble_eq_true rfl, Nat.le_of_ble_eq_true rfl⟩ dL_law_655 ?_
  refine lq_aload C 1 dL_law_658 rfl rfl ?_
  refine lq_aload C 3 dL_law_659 rfl rfl ?_
  refine lq_iload C 0 dL_law_660 rfl rfl ?_
  refine lq_iconst C dL_law_661 lwi_1 ?_
  refine lq_iadd C dL_law_662 ?_
  refine lq_sld C h1 dL_law_663 ?_
  refine lq_aload C 3 dL_law_664 rfl rfl ?_
  refine lq_iload C 0 dL_law_665 rfl rfl ?_
  refine lq_iconst C dL_law_666 lwi_2 ?_
  refine lq_iadd C dL_law_667 ?_
  refine lq_sld C h2 dL_law_668 ?_
  refine lq_aload C 3 dL_law_669 rfl rfl ?_
  refine lq_iload C 0 dL_law_670 rfl rfl ?_
  refine lq_iconst C dL_law_671 lwi_3 ?_
  refine lq_iadd C dL_law_672 ?_
  refine lq_sld C h3 dL_law_673 ?_
  refine lq_aload C 3 dL_law_674 rfl rfl ?_
  refine lq_iload C 0 dL_law_675 rfl rfl ?_
  refine lq_iconst C dL_law_676 lwi_4 ?_
  refine lq_iadd C dL_law_677 ?_
  refine lq_sld C h4 dL_law_678 ?_
  refine lq_callM C [.int (xs (x3 + 1).toNatClampNeg), .int (xs (x3 + 2).toNatClampNeg), .int (xs (x3 + 3).toNatClampNeg), .int (xs (x3 + 4).toNatClampNeg)] [.int r] e2 hsl (m_X11_trade z.l C.2.2.2.2.1 (xs (x3 + 1).toNatClampNeg) (xs (x3 + 2).toNatClampNeg) (xs (x3 + 3).toNatClampNeg) (xs (x3 + 4).toNatClampNeg) σm) mv_X11_trade lk_L_80 sm_0 rfl rfl rfl (Nat.le_of_ble_eq_true rfl) ⟨Nat.le_of_ble_eq_true rfl, Nat.le_of_ble_eq_true rfl⟩ dL_law_679 ?_
  refine lq_eq C (tgt := 1290) dL_law_682 (by decide) ?_
  exact kk σx1 σm1 hR1
set_option maxRecDepth 100000 in
set_option maxHeartbeats 4000000 in
theorem law_c15 {z : Cz} {b L : Nat} {xs : Nat → Int32} {αx αm : Nat → Nat} {D : va_G} {cA : Nat → ClassId} {ce sl : Nat} {Rel : St → St → Prop} (C : CL z b L xs αx αm D cA) (hsl : ce ≤ 600000 ∧ sl ≤ 7302250) (hs : Step_15 Rel) {x3 : Int32} (h1 : vp_in (x3 + 1) L) (h2 : vp_in (x3 + 2) L) (h3 : vp_in (x3 + 3) L) (h4 : vp_in (x3 + 4) L) (h5 : vp_in (x3 + 5) L)
    {σx σm : St} (hR : Rel σx σm) (kk : ∀ σx σm, Rel σx σm → LQ z b αx αm D cA ce sl σx σm 1290 [(3, .int x3), (2, .ref (αm 0)), (1, .ref (αx 0)), (0, .ref b)] []) : LQ z b αx αm D cA ce sl σx σm 687 [(3, .int x3), (2, .ref (αm 0)), (1, .ref (αx 0)), (0, .ref b)] [] := by
  obtain ⟨r, σx1, σm1, e1, e2, hR1⟩ := hs (xs (x3 + 1).toNatClampNeg) (xs (x3 + 2).toNatClampNeg) (xs (x3 + 3).toNatClampNeg) σx σm hR
  refine lq_aload C 2 dL_law_687 rfl rfl ?_
  refine lq_aload C 3 dL_law_688 rfl rfl ?_
  refine lq_iload C 0 dL_law_689 rfl rfl ?_
  refine lq_iconst C dL_law_690 lwi_1 ?_
  refine lq_iadd C dL_law_691 ?_
  refine lq_sld C h1 dL_law_692 ?_
  refine lq_aload C 3 dL_law_693 rfl rfl ?_
  refine lq_iload C 0 dL_law_694 rfl rfl ?_
  refine lq_iconst C dL_law_695 lwi_2 ?_
  refine lq_iadd C dL_law_696 ?_
  refine lq_sld C h2 dL_law_697 ?_
  refine lq_aload C 3 dL_law_698 rfl rfl ?_
  refine lq_iload C 0 dL_law_699 rfl rfl ?_
  refine lq_iconst C dL_law_700 lwi_3 ?_
  refine lq_iadd C dL_law_701 ?_
  refine lq_sld C h3 dL_law_702 ?_
  refine lq_callX C [.int (xs (x3 + 1).toNatClampNeg), .int (xs (x3 + 2).toNatClampNeg), .int (xs (x3 + 3).toNatClampNeg)] [] e1 hsl (m_X10_lend z.l C.2.2.2.1 (xs (x3 + 1).toNatClampNeg) (xs (x3 + 2).toNatClampNeg) (xs (x3 + 3).toNatClampNeg) σx) mv_X10_lend lk_L_81 sx_0 rfl rfl rfl (Nat.le_of_ble_eq_true rfl) ⟨Nat.le_of_ble_eq_true rfl, Nat.le_of_ble_eq_true rfl⟩ dL_law_703 ?_
  refine lq_aload C 1 dL_law_706 rfl rfl ?_
  refine lq_aload C 3 dL_law_707 rfl rfl ?_
  refine lq_iload C 0 dL_law_708 rfl rfl ?_
  refine lq_iconst C dL_law_709 lwi_1 ?_
  refine lq_iadd C dL_law_710 ?_
  refine lq_sld C h1 dL_law_711 ?_
  refine lq_aload C 3 dL_law_712 rfl rfl ?_
  refine lq_iload C 0 dL_law_713 rfl rfl ?_
  refine lq_iconst C dL_law_714 lwi_2 ?_
  refine lq_iadd C dL_law_715 ?_
  refine lq_sld C h2 dL_law_716 ?_
  refine lq_aload C 3 dL_law_717 rfl rfl ?_
  refine lq_iload C 0 dL_law_718 rfl rfl ?_
  refine lq_iconst C dL_law_719 lwi_3 ?_
  refine lq_iadd C dL_law_720 ?_
  refine lq_sld C h3 dL_law_721 ?_
  refine lq_callM C [.int (xs (x3 + 1).toNatClampNeg), .int (xs (x3 + 2).toNatClampNeg), .int (xs (x3 + 3).toNatClampNeg)] [.int r] e2 hsl (m_X11_lend z.l C.2.2.2.2.1 (xs (x3 + 1).toNatClampNeg) (xs (x3 + 2).toNatClampNeg) (xs (x3 + 3).toNatClampNeg) σm) mv_X11_lend lk_L_84 sm_0 rfl rfl rfl (Nat.le_of_ble_eq_true rfl) ⟨Nat.le_of_ble_eq_true rfl, Nat.le_of_ble_eq_true rfl⟩ dL_law_722 ?_
  refine lq_eq C (tgt := 1290) dL_law_725 (by decide) ?_
  exact kk σx1 σm1 hR1
set_option maxRecDepth 100000 in
set_option maxHeartbeats 4000000 in
theorem law_c16 {z : Cz} {b L : Nat} {xs : Nat → Int32} {αx αm : Nat → Nat} {D : va_G} {cA : Nat → ClassId} {ce sl : Nat} {Rel : St → St → Prop} (C : CL z b L xs αx αm D cA) (hsl : ce ≤ 600000 ∧ sl ≤ 7302250) (hs : Step_16 Rel) {x3 : Int32} (h1 : vp_in (x3 + 1) L) (h2 : vp_in (x3 + 2) L) (h3 : vp_in (x3 + 3) L) (h4 : vp_in (x3 + 4) L) (h5 : vp_in (x3 + 5) L)
    {σx σm : St} (hR : Rel σx σm) (kk : ∀ σx σm, Rel σx σm → LQ z b αx αm D cA ce sl σx σm 1290 [(3, .int x3), (2, .ref (αm 0)), (1, .ref (αx 0)), (0, .ref b)] []) : LQ z b αx αm D cA ce sl σx σm 730 [(3, .int x3), (2, .ref (αm 0)), (1, .ref (αx 0)), (0, .ref b)] [] := by
  obtain ⟨r, σx1, σm1, e1, e2, hR1⟩ := hs (xs (x3 + 1).toNatClampNeg) σx σm hR
  refine lq_aload C 2 dL_law_730 rfl rfl ?_
  refine lq_aload C 3 dL_law_731 rfl rfl ?_
  refine lq_iload C 0 dL_law_732 rfl rfl ?_
  refine lq_iconst C dL_law_733 lwi_1 ?_
  refine lq_iadd C dL_law_734 ?_
  refine lq_sld C h1 dL_law_735 ?_
  refine lq_callX C [.int (xs (x3 + 1).toNatClampNeg)] [] e1 hsl (m_X10_giveBack z.l C.2.2.2.1 (xs (x3 + 1).toNatClampNeg) σx) mv_X10_giveBack lk_L_85 sx_0 rfl rfl rfl (Nat.le_of_ble_eq_true rfl) ⟨Nat.le_of_ble_eq_true rfl, Nat.le_of_ble_eq_true rfl⟩ dL_law_736 ?_
  refine lq_aload C 1 dL_law_739 rfl rfl ?_
  refine lq_aload C 3 dL_law_740 rfl rfl ?_
  refine lq_iload C 0 dL_law_741 rfl rfl ?_
  refine lq_iconst C dL_law_742 lwi_1 ?_
  refine lq_iadd C dL_law_743 ?_
  refine lq_sld C h1 dL_law_744 ?_
  refine lq_callM C [.int (xs (x3 + 1).toNatClampNeg)] [.int r] e2 hsl (m_X11_giveBack z.l C.2.2.2.2.1 (xs (x3 + 1).toNatClampNeg) σm) mv_X11_giveBack lk_L_88 sm_0 rfl rfl rfl (Nat.le_of_ble_eq_true rfl) ⟨Nat.le_of_ble_eq_true rfl, Nat.le_of_ble_eq_true rfl⟩ dL_law_745 ?_
  refine lq_eq C (tgt := 1290) dL_law_748 (by decide) ?_
  exact kk σx1 σm1 hR1
set_option maxRecDepth 100000 in
set_option maxHeartbeats 4000000 in
theorem law_c17 {z : Cz} {b L : Nat} {xs : Nat → Int32} {αx αm : Nat → Nat} {D : va_G} {cA : Nat → ClassId} {ce sl : Nat} {Rel : St → St → Prop} (C : CL z b L xs αx αm D cA) (hsl : ce ≤ 600000 ∧ sl ≤ 7302250) (hs : Step_17 Rel) {x3 : Int32} (h1 : vp_in (x3 + 1) L) (h2 : vp_in (x3 + 2) L) (h3 : vp_in (x3 + 3) L) (h4 : vp_in (x3 + 4) L) (h5 : vp_in (x3 + 5) L)
    {σx σm : St} (hR : Rel σx σm) (kk : ∀ σx σm, Rel σx σm → LQ z b αx αm D cA ce sl σx σm 1290 [(3, .int x3), (2, .ref (αm 0)), (1, .ref (αx 0)), (0, .ref b)] []) : LQ z b αx αm D cA ce sl σx σm 753 [(3, .int x3), (2, .ref (αm 0)), (1, .ref (αx 0)), (0, .ref b)] [] := by
  obtain ⟨r, σx1, σm1, e1, e2, hR1⟩ := hs (xs (x3 + 1).toNatClampNeg) (xs (x3 + 2).toNatClampNeg) σx σm hR
  refine lq_aload C 2 dL_law_753 rfl rfl ?_
  refine lq_aload C 3 dL_law_754 rfl rfl ?_
  refine lq_iload C 0 dL_law_755 rfl rfl ?_
  refine lq_iconst C dL_law_756 lwi_1 ?_
  refine lq_iadd C dL_law_757 ?_
  refine lq_sld C h1 dL_law_758 ?_
  refine lq_aload C 3 dL_law_759 rfl rfl ?_
  refine lq_iload C 0 dL_law_760 rfl rfl ?_
  refine lq_iconst C dL_law_761 lwi_2 ?_
  refine lq_iadd C dL_law_762 ?_
  refine lq_sld C h2 dL_law_763 ?_
  refine lq_callX C [.int (xs (x3 + 1).toNatClampNeg), .int (xs (x3 + 2).toNatClampNeg)] [] e1 hsl (m_X10_loan z.l C.2.2.2.1 (xs (x3 + 1).toNatClampNeg) (xs (x3 + 2).toNatClampNeg) σx) mv_X10_loan lk_L_89 sx_0 rfl rfl rfl (Nat.le_of_ble_eq_true rfl) ⟨Nat.le_of_ble_eq_true rfl, Nat.le_of_ble_eq_true rfl⟩ dL_law_764 ?_
  refine lq_aload C 1 dL_law_767 rfl rfl ?_
  refine lq_aload C 3 dL_law_768 rfl rfl ?_
  refine lq_iload C 0 dL_law_769 rfl rfl ?_
  refine lq_iconst C dL_law_770 lwi_1 ?_
  refine lq_iadd C dL_law_771 ?_
  refine lq_sld C h1 dL_law_772 ?_
  refine lq_aload C 3 dL_law_773 rfl rfl ?_
  refine lq_iload C 0 dL_law_774 rfl rfl ?_
  refine lq_iconst C dL_law_775 lwi_2 ?_
  refine lq_iadd C dL_law_776 ?_
  refine lq_sld C h2 dL_law_777 ?_
  refine lq_callM C [.int (xs (x3 + 1).toNatClampNeg), .int (xs (x3 + 2).toNatClampNeg)] [.int r] e2 hsl (m_X11_loan z.l C.2.2.2.2.1 (xs (x3 + 1).toNatClampNeg) (xs (x3 + 2).toNatClampNeg) σm) mv_X11_loan lk_L_92 sm_0 rfl rfl rfl (Nat.le_of_ble_eq_true rfl) ⟨Nat.le_of_ble_eq_true rfl, Nat.le_of_ble_eq_true rfl⟩ dL_law_778 ?_
  refine lq_eq C (tgt := 1290) dL_law_781 (by decide) ?_
  exact kk σx1 σm1 hR1
set_option maxRecDepth 100000 in
set_option maxHeartbeats 4000000 in
theorem law_c18 {z : Cz} {b L : Nat} {xs : Nat → Int32} {αx αm : Nat → Nat} {D : va_G} {cA : Nat → ClassId} {ce sl : Nat} {Rel : St → St → Prop} (C : CL z b L xs αx αm D cA) (hsl : ce ≤ 600000 ∧ sl ≤ 7302250) (hs : Step_18 Rel) {x3 : Int32} (h1 : vp_in (x3 + 1) L) (h2 : vp_in (x3 + 2) L) (h3 : vp_in (x3 + 3) L) (h4 : vp_in (x3 + 4) L) (h5 : vp_in (x3 + 5) L)
    {σx σm : St} (hR : Rel σx σm) (kk : ∀ σx σm, Rel σx σm → LQ z b αx αm D cA ce sl σx σm 1290 [(3, .int x3), (2, .ref (αm 0)), (1, .ref (αx 0)), (0, .ref b)] []) : LQ z b αx αm D cA ce sl σx σm 786 [(3, .int x3), (2, .ref (αm 0)), (1, .ref (αx 0)), (0, .ref b)] [] := by
  obtain ⟨r, σx1, σm1, e1, e2, hR1⟩ := hs (xs (x3 + 1).toNatClampNeg) σx σm hR
  refine lq_aload C 2 dL_law_786 rfl rfl ?_
  refine lq_aload C 3 dL_law_787 rfl rfl ?_
  refine lq_iload C 0 dL_law_788 rfl rfl ?_
  refine lq_iconst C dL_law_789 lwi_1 ?_
  refine lq_iadd C dL_law_790 ?_
  refine lq_sld C h1 dL_law_791 ?_
  refine lq_callX C [.int (xs (x3 + 1).toNatClampNeg)] [] e1 hsl (m_X10_drown z.l C.2.2.2.1 (xs (x3 + 1).toNatClampNeg) σx) mv_X10_drown lk_L_93 sx_0 rfl rfl rfl (Nat.le_of_ble_eq_true rfl) ⟨Nat.le_of_ble_eq_true rfl, Nat.le_of_ble_eq_true rfl⟩ dL_law_792 ?_
  refine lq_aload C 1 dL_law_795 rfl rfl ?_
  refine lq_aload C 3 dL_law_796 rfl rfl ?_
  refine lq_iload C 0 dL_law_797 rfl rfl ?_
  refine lq_iconst C dL_law_798 lwi_1 ?_
  refine lq_iadd C dL_law_799 ?_
  refine lq_sld C h1 dL_law_800 ?_
  refine lq_callM C [.int (xs (x3 + 1).toNatClampNeg)] [.int r] e2 hsl (m_X11_drown z.l C.2.2.2.2.1 (xs (x3 + 1).toNatClampNeg) σm) mv_X11_drown lk_L_96 sm_0 rfl rfl rfl (Nat.le_of_ble_eq_true rfl) ⟨Nat.le_of_ble_eq_true rfl, Nat.le_of_ble_eq_true rfl⟩ dL_law_801 ?_
  refine lq_eq C (tgt := 1290) dL_law_804 (by decide) ?_
  exact kk σx1 σm1 hR1
set_option maxRecDepth 100000 in
set_option maxHeartbeats 4000000 in
theorem law_c19 {z : Cz} {b L : Nat} {xs : Nat → Int32} {αx αm : Nat → Nat} {D : va_G} {cA : Nat → ClassId} {ce sl : Nat} {Rel : St → St → Prop} (C : CL z b L xs αx αm D cA) (hsl : ce ≤ 600000 ∧ sl ≤ 7302250) (hs : Step_19 Rel) {x3 : Int32} (h1 : vp_in (x3 + 1) L) (h2 : vp_in (x3 + 2) L) (h3 : vp_in (x3 + 3) L) (h4 : vp_in (x3 + 4) L) (h5 : vp_in (x3 + 5) L)
    {σx σm : St} (hR : Rel σx σm) (kk : ∀ σx σm, Rel σx σm → LQ z b αx αm D cA ce sl σx σm 1290 [(3, .int x3), (2, .ref (αm 0)), (1, .ref (αx 0)), (0, .ref b)] []) : LQ z b αx αm D cA ce sl σx σm 809 [(3, .int x3), (2, .ref (αm 0)), (1, .ref (αx 0)), (0, .ref b)] [] := by
  obtain ⟨r, σx1, σm1, e1, e2, hR1⟩ := hs (xs (x3 + 1).toNatClampNeg) (xs (x3 + 2).toNatClampNeg) σx σm hR
  refine lq_aload C 2 dL_law_809 rfl rfl ?_
  refine lq_aload C 3 dL_law_810 rfl rfl ?_
  refine lq_iload C 0 dL_law_811 rfl rfl ?_
  refine lq_iconst C dL_law_812 lwi_1 ?_
  refine lq_iadd C dL_law_813 ?_
  refine lq_sld C h1 dL_law_814 ?_
  refine lq_aload C 3 dL_law_815 rfl rfl ?_
  refine lq_iload C 0 dL_law_816 rfl rfl ?_
  refine lq_iconst C dL_law_817 lwi_2 ?_
  refine lq_iadd C dL_law_818 ?_
  refine lq_sld C h2 dL_law_819 ?_
  refine lq_callX C [.int (xs (x3 + 1).toNatClampNeg), .int (xs (x3 + 2).toNatClampNeg)] [] e1 hsl (m_X10_melt z.l C.2.2.2.1 (xs (x3 + 1).toNatClampNeg) (xs (x3 + 2).toNatClampNeg) σx) mv_X10_melt lk_L_97 sx_0 rfl rfl rfl (Nat.le_of_ble_eq_true rfl) ⟨Nat.le_of_ble_eq_true rfl, Nat.le_of_ble_eq_true rfl⟩ dL_law_820 ?_
  refine lq_aload C 1 dL_law_823 rfl rfl ?_
  refine lq_aload C 3 dL_law_824 rfl rfl ?_
  refine lq_iload C 0 dL_law_825 rfl rfl ?_
  refine lq_iconst C dL_law_826 lwi_1 ?_
  refine lq_iadd C dL_law_827 ?_
  refine lq_sld C h1 dL_law_828 ?_
  refine lq_aload C 3 dL_law_829 rfl rfl ?_
  refine lq_iload C 0 dL_law_830 rfl rfl ?_
  refine lq_iconst C dL_law_831 lwi_2 ?_
  refine lq_iadd C dL_law_832 ?_
  refine lq_sld C h2 dL_law_833 ?_
  refine lq_callM C [.int (xs (x3 + 1).toNatClampNeg), .int (xs (x3 + 2).toNatClampNeg)] [.int r] e2 hsl (m_X11_melt z.l C.2.2.2.2.1 (xs (x3 + 1).toNatClampNeg) (xs (x3 + 2).toNatClampNeg) σm) mv_X11_melt lk_L_100 sm_0 rfl rfl rfl (Nat.le_of_ble_eq_true rfl) ⟨Nat.le_of_ble_eq_true rfl, Nat.le_of_ble_eq_true rfl⟩ dL_law_834 ?_
  refine lq_eq C (tgt := 1290) dL_law_837 (by decide) ?_
  exact kk σx1 σm1 hR1
set_option maxRecDepth 100000 in
set_option maxHeartbeats 4000000 in
theorem law_c20 {z : Cz} {b L : Nat} {xs : Nat → Int32} {αx αm : Nat → Nat} {D : va_G} {cA : Nat → ClassId} {ce sl : Nat} {Rel : St → St → Prop} (C : CL z b L xs αx αm D cA) (hsl : ce ≤ 600000 ∧ sl ≤ 7302250) (hs : Step_20 Rel) {x3 : Int32} (h1 : vp_in (x3 + 1) L) (h2 : vp_in (x3 + 2) L) (h3 : vp_in (x3 + 3) L) (h4 : vp_in (x3 + 4) L) (h5 : vp_in (x3 + 5) L)
    {σx σm : St} (hR : Rel σx σm) (kk : ∀ σx σm, Rel σx σm → LQ z b αx αm D cA ce sl σx σm 1290 [(3, .int x3), (2, .ref (αm 0)), (1, .ref (αx 0)), (0, .ref b)] []) : LQ z b αx αm D cA ce sl σx σm 842 [(3, .int x3), (2, .ref (αm 0)), (1, .ref (αx 0)), (0, .ref b)] [] := by
  obtain ⟨r, σx1, σm1, e1, e2, hR1⟩ := hs (xs (x3 + 1).toNatClampNeg) (xs (x3 + 2).toNatClampNeg) σx σm hR
  refine lq_aload C 2 dL_law_842 rfl rfl ?_
  refine lq_aload C 3 dL_law_843 rfl rfl ?_
  refine lq_iload C 0 dL_law_844 rfl rfl ?_
  refine lq_iconst C dL_law_845 lwi_1 ?_
  refine lq_iadd C dL_law_846 ?_
  refine lq_sld C h1 dL_law_847 ?_
  refine lq_aload C 3 dL_law_848 rfl rfl ?_
  refine lq_iload C 0 dL_law_849 rfl rfl ?_
  refine lq_iconst C dL_law_850 lwi_2 ?_
  refine lq_iadd C dL_law_851 ?_
  refine lq_sld C h2 dL_law_852 ?_
  refine lq_callX C [.int (xs (x3 + 1).toNatClampNeg), .int (xs (x3 + 2).toNatClampNeg)] [] e1 hsl (m_X10_heir z.l C.2.2.2.1 (xs (x3 + 1).toNatClampNeg) (xs (x3 + 2).toNatClampNeg) σx) mv_X10_heir lk_L_101 sx_0 rfl rfl rfl (Nat.le_of_ble_eq_true rfl) ⟨Nat.le_of_ble_eq_true rfl, Nat.le_of_ble_eq_true rfl⟩ dL_law_853 ?_
  refine lq_aload C 1 dL_law_856 rfl rfl ?_
  refine lq_aload C 3 dL_law_857 rfl rfl ?_
  refine lq_iload C 0 dL_law_858 rfl rfl ?_
  refine lq_iconst C dL_law_859 lwi_1 ?_
  refine lq_iadd C dL_law_860 ?_
  refine lq_sld C h1 dL_law_861 ?_
  refine lq_aload C 3 dL_law_862 rfl rfl ?_
  refine lq_iload C 0 dL_law_863 rfl rfl ?_
  refine lq_iconst C dL_law_864 lwi_2 ?_
  refine lq_iadd C dL_law_865 ?_
  refine lq_sld C h2 dL_law_866 ?_
  refine lq_callM C [.int (xs (x3 + 1).toNatClampNeg), .int (xs (x3 + 2).toNatClampNeg)] [.int r] e2 hsl (m_X11_heir z.l C.2.2.2.2.1 (xs (x3 + 1).toNatClampNeg) (xs (x3 + 2).toNatClampNeg) σm) mv_X11_heir lk_L_104 sm_0 rfl rfl rfl (Nat.le_of_ble_eq_true rfl) ⟨Nat.le_of_ble_eq_true rfl, Nat.le_of_ble_eq_true rfl⟩ dL_law_867 ?_
  refine lq_eq C (tgt := 1290) dL_law_870 (by decide) ?_
  exact kk σx1 σm1 hR1
set_option maxRecDepth 100000 in
set_option maxHeartbeats 4000000 in
theorem law_c21 {z : Cz} {b L : Nat} {xs : Nat → Int32} {αx αm : Nat → Nat} {D : va_G} {cA : Nat → ClassId} {ce sl : Nat} {Rel : St → St → Prop} (C : CL z b L xs αx αm D cA) (hsl : ce ≤ 600000 ∧ sl ≤ 7302250) (hs : Step_21 Rel) {x3 : Int32} (h1 : vp_in (x3 + 1) L) (h2 : vp_in (x3 + 2) L) (h3 : vp_in (x3 + 3) L) (h4 : vp_in (x3 + 4) L) (h5 : vp_in (x3 + 5) L)
    {σx σm : St} (hR : Rel σx σm) (kk : ∀ σx σm, Rel σx σm → LQ z b αx αm D cA ce sl σx σm 1290 [(3, .int x3), (2, .ref (αm 0)), (1, .ref (αx 0)), (0, .ref b)] []) : LQ z b αx αm D cA ce sl σx σm 875 [(3, .int x3), (2, .ref (αm 0)), (1, .ref (αx 0)), (0, .ref b)] [] := by
  obtain ⟨r, σx1, σm1, e1, e2, hR1⟩ := hs (xs (x3 + 1).toNatClampNeg) σx σm hR
  refine lq_aload C 2 dL_law_875 rfl rfl ?_
  refine lq_aload C 3 dL_law_876 rfl rfl ?_
  refine lq_iload C 0 dL_law_877 rfl rfl ?_
  refine lq_iconst C dL_law_878 lwi_1 ?_
  refine lq_iadd C dL_law_879 ?_
  refine lq_sld C h1 dL_law_880 ?_
  refine lq_callX C [.int (xs (x3 + 1).toNatClampNeg)] [] e1 hsl (m_X10_years z.l C.2.2.2.1 (xs (x3 + 1).toNatClampNeg) σx) mv_X10_years lk_L_105 sx_0 rfl rfl rfl (Nat.le_of_ble_eq_true rfl) ⟨Nat.le_of_ble_eq_true rfl, Nat.le_of_ble_eq_true rfl⟩ dL_law_881 ?_
  refine lq_aload C 1 dL_law_884 rfl rfl ?_
  refine lq_aload C 3 dL_law_885 rfl rfl ?_
  refine lq_iload C 0 dL_law_886 rfl rfl ?_
  refine lq_iconst C dL_law_887 lwi_1 ?_
  refine lq_iadd C dL_law_888 ?_
  refine lq_sld C h1 dL_law_889 ?_
  refine lq_callM C [.int (xs (x3 + 1).toNatClampNeg)] [.int r] e2 hsl (m_X11_years z.l C.2.2.2.2.1 (xs (x3 + 1).toNatClampNeg) σm) mv_X11_years lk_L_108 sm_0 rfl rfl rfl (Nat.le_of_ble_eq_true rfl) ⟨Nat.le_of_ble_eq_true rfl, Nat.le_of_ble_eq_true rfl⟩ dL_law_890 ?_
  refine lq_eq C (tgt := 1290) dL_law_893 (by decide) ?_
  exact kk σx1 σm1 hR1
set_option maxRecDepth 100000 in
set_option maxHeartbeats 4000000 in
theorem law_c22 {z : Cz} {b L : Nat} {xs : Nat → Int32} {αx αm : Nat → Nat} {D : va_G} {cA : Nat → ClassId} {ce sl : Nat} {Rel : St → St → Prop} (C : CL z b L xs αx αm D cA) (hsl : ce ≤ 600000 ∧ sl ≤ 7302250) (hs : Step_22 Rel) {x3 : Int32} (h1 : vp_in (x3 + 1) L) (h2 : vp_in (x3 + 2) L) (h3 : vp_in (x3 + 3) L) (h4 : vp_in (x3 + 4) L) (h5 : vp_in (x3 + 5) L)
    {σx σm : St} (hR : Rel σx σm) (kk : ∀ σx σm, Rel σx σm → LQ z b αx αm D cA ce sl σx σm 1290 [(3, .int x3), (2, .ref (αm 0)), (1, .ref (αx 0)), (0, .ref b)] []) : LQ z b αx αm D cA ce sl σx σm 898 [(3, .int x3), (2, .ref (αm 0)), (1, .ref (αx 0)), (0, .ref b)] [] := by
  obtain ⟨r, σx1, σm1, e1, e2, hR1⟩ := hs σx σm hR
  refine lq_aload C 2 dL_law_898 rfl rfl ?_
  refine lq_callX C [] [] e1 hsl (m_X10_feast z.l C.2.2.2.1 σx) mv_X10_feast lk_L_109 sx_0 rfl rfl rfl (Nat.le_of_ble_eq_true rfl) ⟨Nat.le_of_ble_eq_true rfl, Nat.le_of_ble_eq_true rfl⟩ dL_law_899 ?_
  refine lq_aload C 1 dL_law_902 rfl rfl ?_
  refine lq_callM C [] [.int r] e2 hsl (m_X11_feast z.l C.2.2.2.2.1 σm) mv_X11_feast lk_L_112 sm_0 rfl rfl rfl (Nat.le_of_ble_eq_true rfl) ⟨Nat.le_of_ble_eq_true rfl, Nat.le_of_ble_eq_true rfl⟩ dL_law_903 ?_
  refine lq_eq C (tgt := 1290) dL_law_906 (by decide) ?_
  exact kk σx1 σm1 hR1
set_option maxRecDepth 100000 in
set_option maxHeartbeats 4000000 in
theorem law_c23 {z : Cz} {b L : Nat} {xs : Nat → Int32} {αx αm : Nat → Nat} {D : va_G} {cA : Nat → ClassId} {ce sl : Nat} {Rel : St → St → Prop} (C : CL z b L xs αx αm D cA) (hsl : ce ≤ 600000 ∧ sl ≤ 7302250) (hs : Step_23 Rel) {x3 : Int32} (h1 : vp_in (x3 + 1) L) (h2 : vp_in (x3 + 2) L) (h3 : vp_in (x3 + 3) L) (h4 : vp_in (x3 + 4) L) (h5 : vp_in (x3 + 5) L)
    {σx σm : St} (hR : Rel σx σm) (kk : ∀ σx σm, Rel σx σm → LQ z b αx αm D cA ce sl σx σm 1290 [(3, .int x3), (2, .ref (αm 0)), (1, .ref (αx 0)), (0, .ref b)] []) : LQ z b αx αm D cA ce sl σx σm 911 [(3, .int x3), (2, .ref (αm 0)), (1, .ref (αx 0)), (0, .ref b)] [] := by
  obtain ⟨r, σx1, σm1, e1, e2, hR1⟩ := hs (xs (x3 + 1).toNatClampNeg) σx σm hR
  refine lq_aload C 2 dL_law_911 rfl rfl ?_
  refine lq_aload C 3 dL_law_912 rfl rfl ?_
  refine lq_iload C 0 dL_law_913 rfl rfl ?_
  refine lq_iconst C dL_law_914 lwi_1 ?_
  refine lq_iadd C dL_law_915 ?_
  refine lq_sld C h1 dL_law_916 ?_
  refine lq_callX C [.int (xs (x3 + 1).toNatClampNeg)] [] e1 hsl (m_X10_seed z.l C.2.2.2.1 (xs (x3 + 1).toNatClampNeg) σx) mv_X10_seed lk_L_113 sx_0 rfl rfl rfl (Nat.le_of_ble_eq_true rfl) ⟨Nat.le_of_ble_eq_true rfl, Nat.le_of_ble_eq_true rfl⟩ dL_law_917 ?_
  refine lq_aload C 1 dL_law_920 rfl rfl ?_
  refine lq_aload C 3 dL_law_921 rfl rfl ?_
  refine lq_iload C 0 dL_law_922 rfl rfl ?_
  refine lq_iconst C dL_law_923 lwi_1 ?_
  refine lq_iadd C dL_law_924 ?_
  refine lq_sld C h1 dL_law_925 ?_
  refine lq_callM C [.int (xs (x3 + 1).toNatClampNeg)] [.int r] e2 hsl (m_X11_seed z.l C.2.2.2.2.1 (xs (x3 + 1).toNatClampNeg) σm) mv_X11_seed lk_L_116 sm_0 rfl rfl rfl (Nat.le_of_ble_eq_true rfl) ⟨Nat.le_of_ble_eq_true rfl, Nat.le_of_ble_eq_true rfl⟩ dL_law_926 ?_
  refine lq_eq C (tgt := 1290) dL_law_929 (by decide) ?_
  exact kk σx1 σm1 hR1
set_option maxRecDepth 100000 in
set_option maxHeartbeats 4000000 in
theorem law_c24 {z : Cz} {b L : Nat} {xs : Nat → Int32} {αx αm : Nat → Nat} {D : va_G} {cA : Nat → ClassId} {ce sl : Nat} {Rel : St → St → Prop} (C : CL z b L xs αx αm D cA) (hsl : ce ≤ 600000 ∧ sl ≤ 7302250) (hs : Step_24 Rel) {x3 : Int32} (h1 : vp_in (x3 + 1) L) (h2 : vp_in (x3 + 2) L) (h3 : vp_in (x3 + 3) L) (h4 : vp_in (x3 + 4) L) (h5 : vp_in (x3 + 5) L)
    {σx σm : St} (hR : Rel σx σm) (kk : ∀ σx σm, Rel σx σm → LQ z b αx αm D cA ce sl σx σm 1290 [(3, .int x3), (2, .ref (αm 0)), (1, .ref (αx 0)), (0, .ref b)] []) : LQ z b αx αm D cA ce sl σx σm 934 [(3, .int x3), (2, .ref (αm 0)), (1, .ref (αx 0)), (0, .ref b)] [] := by
  obtain ⟨r, σx1, σm1, e1, e2, hR1⟩ := hs (xs (x3 + 1).toNatClampNeg) (xs (x3 + 2).toNatClampNeg) σx σm hR
  refine lq_aload C 2 dL_law_934 rfl rfl ?_
  refine lq_aload C 3 dL_law_935 rfl rfl ?_
  refine lq_iload C 0 dL_law_936 rfl rfl ?_
  refine lq_iconst C dL_law_937 lwi_1 ?_
  refine lq_iadd C dL_law_938 ?_
  refine lq_sld C h1 dL_law_939 ?_
  refine lq_aload C 3 dL_law_940 rfl rfl ?_
  refine lq_iload C 0 dL_law_941 rfl rfl ?_
  refine lq_iconst C dL_law_942 lwi_2 ?_
  refine lq_iadd C dL_law_943 ?_
  refine lq_sld C h2 dL_law_944 ?_
  refine lq_callX C [.int (xs (x3 + 1).toNatClampNeg), .int (xs (x3 + 2).toNatClampNeg)] [] e1 hsl (m_X10_signed z.l C.2.2.2.1 (xs (x3 + 1).toNatClampNeg) (xs (x3 + 2).toNatClampNeg) σx) mv_X10_signed lk_L_117 sx_0 rfl rfl rfl (Nat.le_of_ble_eq_true rfl) ⟨Nat.le_of_ble_eq_true rfl, Nat.le_of_ble_eq_true rfl⟩ dL_law_945 ?_
  refine lq_aload C 1 dL_law_948 rfl rfl ?_
  refine lq_aload C 3 dL_law_949 rfl rfl ?_
  refine lq_iload C 0 dL_law_950 rfl rfl ?_
  refine lq_iconst C dL_law_951 lwi_1 ?_
  refine lq_iadd C dL_law_952 ?_
  refine lq_sld C h1 dL_law_953 ?_
  refine lq_aload C 3 dL_law_954 rfl rfl ?_
  refine lq_iload C 0 dL_law_955 rfl rfl ?_
  refine lq_iconst C dL_law_956 lwi_2 ?_
  refine lq_iadd C dL_law_957 ?_
  refine lq_sld C h2 dL_law_958 ?_
  refine lq_callM C [.int (xs (x3 + 1).toNatClampNeg), .int (xs (x3 + 2).toNatClampNeg)] [.int r] e2 hsl (m_X11_signed z.l C.2.2.2.2.1 (xs (x3 + 1).toNatClampNeg) (xs (x3 + 2).toNatClampNeg) σm) mv_X11_signed lk_L_120 sm_0 rfl rfl rfl (Nat.le_of_ble_eq_true rfl) ⟨Nat.le_of_ble_eq_true rfl, Nat.le_of_ble_eq_true rfl⟩ dL_law_959 ?_
  refine lq_eq C (tgt := 1290) dL_law_962 (by decide) ?_
  exact kk σx1 σm1 hR1
set_option maxRecDepth 100000 in
set_option maxHeartbeats 4000000 in
theorem law_c25 {z : Cz} {b L : Nat} {xs : Nat → Int32} {αx αm : Nat → Nat} {D : va_G} {cA : Nat → ClassId} {ce sl : Nat} {Rel : St → St → Prop} (C : CL z b L xs αx αm D cA) (hsl : ce ≤ 600000 ∧ sl ≤ 7302250) (hs : Step_25 Rel) {x3 : Int32} (h1 : vp_in (x3 + 1) L) (h2 : vp_in (x3 + 2) L) (h3 : vp_in (x3 + 3) L) (h4 : vp_in (x3 + 4) L) (h5 : vp_in (x3 + 5) L)
    {σx σm : St} (hR : Rel σx σm) (kk : ∀ σx σm, Rel σx σm → LQ z b αx αm D cA ce sl σx σm 1290 [(3, .int x3), (2, .ref (αm 0)), (1, .ref (αx 0)), (0, .ref b)] []) : LQ z b αx αm D cA ce sl σx σm 967 [(3, .int x3), (2, .ref (αm 0)), (1, .ref (αx 0)), (0, .ref b)] [] := by
  obtain ⟨r, σx1, σm1, e1, e2, hR1⟩ := hs (xs (x3 + 1).toNatClampNeg) (xs (x3 + 2).toNatClampNeg) σx σm hR
  refine lq_aload C 2 dL_law_967 rfl rfl ?_
  refine lq_aload C 3 dL_law_968 rfl rfl ?_
  refine lq_iload C 0 dL_law_969 rfl rfl ?_
  refine lq_iconst C dL_law_970 lwi_1 ?_
  refine lq_iadd C dL_law_971 ?_
  refine lq_sld C h1 dL_law_972 ?_
  refine lq_aload C 3 dL_law_973 rfl rfl ?_
  refine lq_iload C 0 dL_law_974 rfl rfl ?_
  refine lq_iconst C dL_law_975 lwi_2 ?_
  refine lq_iadd C dL_law_976 ?_
  refine lq_sld C h2 dL_law_977 ?_
  refine lq_callX C [.int (xs (x3 + 1).toNatClampNeg), .int (xs (x3 + 2).toNatClampNeg)] [] e1 hsl (m_X10_span z.l C.2.2.2.1 (xs (x3 + 1).toNatClampNeg) (xs (x3 + 2).toNatClampNeg) σx) mv_X10_span lk_L_121 sx_0 rfl rfl rfl (Nat.le_of_ble_eq_true rfl) ⟨Nat.le_of_ble_eq_true rfl, Nat.le_of_ble_eq_true rfl⟩ dL_law_978 ?_
  refine lq_aload C 1 dL_law_981 rfl rfl ?_
  refine lq_aload C 3 dL_law_982 rfl rfl ?_
  refine lq_iload C 0 dL_law_983 rfl rfl ?_
  refine lq_iconst C dL_law_984 lwi_1 ?_
  refine lq_iadd C dL_law_985 ?_
  refine lq_sld C h1 dL_law_986 ?_
  refine lq_aload C 3 dL_law_987 rfl rfl ?_
  refine lq_iload C 0 dL_law_988 rfl rfl ?_
  refine lq_iconst C dL_law_989 lwi_2 ?_
  refine lq_iadd C dL_law_990 ?_
  refine lq_sld C h2 dL_law_991 ?_
  refine lq_callM C [.int (xs (x3 + 1).toNatClampNeg), .int (xs (x3 + 2).toNatClampNeg)] [.int r] e2 hsl (m_X11_span z.l C.2.2.2.2.1 (xs (x3 + 1).toNatClampNeg) (xs (x3 + 2).toNatClampNeg) σm) mv_X11_span lk_L_124 sm_0 rfl rfl rfl (Nat.le_of_ble_eq_true rfl) ⟨Nat.le_of_ble_eq_true rfl, Nat.le_of_ble_eq_true rfl⟩ dL_law_992 ?_
  refine lq_eq C (tgt := 1290) dL_law_995 (by decide) ?_
  exact kk σx1 σm1 hR1
set_option maxRecDepth 100000 in
set_option maxHeartbeats 4000000 in
theorem law_c26 {z : Cz} {b L : Nat} {xs : Nat → Int32} {αx αm : Nat → Nat} {D : va_G} {cA : Nat → ClassId} {ce sl : Nat} {Rel : St → St → Prop} (C : CL z b L xs αx αm D cA) (hsl : ce ≤ 600000 ∧ sl ≤ 7302250) (hs : Step_26 Rel) {x3 : Int32} (h1 : vp_in (x3 + 1) L) (h2 : vp_in (x3 + 2) L) (h3 : vp_in (x3 + 3) L) (h4 : vp_in (x3 + 4) L) (h5 : vp_in (x3 + 5) L)
    {σx σm : St} (hR : Rel σx σm) (kk : ∀ σx σm, Rel σx σm → LQ z b αx αm D cA ce sl σx σm 1290 [(3, .int x3), (2, .ref (αm 0)), (1, .ref (αx 0)), (0, .ref b)] []) : LQ z b αx αm D cA ce sl σx σm 1000 [(3, .int x3), (2, .ref (αm 0)), (1, .ref (αx 0)), (0, .ref b)] [] := by
  obtain ⟨r, σx1, σm1, e1, e2, hR1⟩ := hs (xs (x3 + 1).toNatClampNeg) (xs (x3 + 2).toNatClampNeg) σx σm hR
  refine lq_aload C 2 dL_law_1000 rfl rfl ?_
  refine lq_aload C 3 dL_law_1001 rfl rfl ?_
  refine lq_iload C 0 dL_law_1002 rfl rfl ?_
  refine lq_iconst C dL_law_1003 lwi_1 ?_
  refine lq_iadd C dL_law_1004 ?_
  refine lq_sld C h1 dL_law_1005 ?_
  refine lq_aload C 3 dL_law_1006 rfl rfl ?_
  refine lq_iload C 0 dL_law_1007 rfl rfl ?_
  refine lq_iconst C dL_law_1008 lwi_2 ?_
  refine lq_iadd C dL_law_1009 ?_
  refine lq_sld C h2 dL_law_1010 ?_
  refine lq_callX C [.int (xs (x3 + 1).toNatClampNeg), .int (xs (x3 + 2).toNatClampNeg)] [] e1 hsl (m_X10_moved z.l C.2.2.2.1 (xs (x3 + 1).toNatClampNeg) (xs (x3 + 2).toNatClampNeg) σx) mv_X10_moved lk_L_125 sx_0 rfl rfl rfl (Nat.le_of_ble_eq_true rfl) ⟨Nat.le_of_ble_eq_true rfl, Nat.le_of_ble_eq_true rfl⟩ dL_law_1011 ?_
  refine lq_aload C 1 dL_law_1014 rfl rfl ?_
  refine lq_aload C 3 dL_law_1015 rfl rfl ?_
  refine lq_iload C 0 dL_law_1016 rfl rfl ?_
  refine lq_iconst C dL_law_1017 lwi_1 ?_
  refine lq_iadd C dL_law_1018 ?_
  refine lq_sld C h1 dL_law_1019 ?_
  refine lq_aload C 3 dL_law_1020 rfl rfl ?_
  refine lq_iload C 0 dL_law_1021 rfl rfl ?_
  refine lq_iconst C dL_law_1022 lwi_2 ?_
  refine lq_iadd C dL_law_1023 ?_
  refine lq_sld C h2 dL_law_1024 ?_
  refine lq_callM C [.int (xs (x3 + 1).toNatClampNeg), .int (xs (x3 + 2).toNatClampNeg)] [.int r] e2 hsl (m_X11_moved z.l C.2.2.2.2.1 (xs (x3 + 1).toNatClampNeg) (xs (x3 + 2).toNatClampNeg) σm) mv_X11_moved lk_L_128 sm_0 rfl rfl rfl (Nat.le_of_ble_eq_true rfl) ⟨Nat.le_of_ble_eq_true rfl, Nat.le_of_ble_eq_true rfl⟩ dL_law_1025 ?_
  refine lq_eq C (tgt := 1290) dL_law_1028 (by decide) ?_
  exact kk σx1 σm1 hR1
set_option maxRecDepth 100000 in
set_option maxHeartbeats 4000000 in
theorem law_c27 {z : Cz} {b L : Nat} {xs : Nat → Int32} {αx αm : Nat → Nat} {D : va_G} {cA : Nat → ClassId} {ce sl : Nat} {Rel : St → St → Prop} (C : CL z b L xs αx αm D cA) (hsl : ce ≤ 600000 ∧ sl ≤ 7302250) (hs : Step_27 Rel) {x3 : Int32} (h1 : vp_in (x3 + 1) L) (h2 : vp_in (x3 + 2) L) (h3 : vp_in (x3 + 3) L) (h4 : vp_in (x3 + 4) L) (h5 : vp_in (x3 + 5) L)
    {σx σm : St} (hR : Rel σx σm) (kk : ∀ σx σm, Rel σx σm → LQ z b αx αm D cA ce sl σx σm 1290 [(3, .int x3), (2, .ref (αm 0)), (1, .ref (αx 0)), (0, .ref b)] []) : LQ z b αx αm D cA ce sl σx σm 1033 [(3, .int x3), (2, .ref (αm 0)), (1, .ref (αx 0)), (0, .ref b)] [] := by
  obtain ⟨r, σx1, σm1, e1, e2, hR1⟩ := hs (xs (x3 + 1).toNatClampNeg) (xs (x3 + 2).toNatClampNeg) (xs (x3 + 3).toNatClampNeg) σx σm hR
  refine lq_aload C 2 dL_law_1033 rfl rfl ?_
  refine lq_aload C 3 dL_law_1034 rfl rfl ?_
  refine lq_iload C 0 dL_law_1035 rfl rfl ?_
  refine lq_iconst C dL_law_1036 lwi_1 ?_
  refine lq_iadd C dL_law_1037 ?_
  refine lq_sld C h1 dL_law_1038 ?_
  refine lq_aload C 3 dL_law_1039 rfl rfl ?_
  refine lq_iload C 0 dL_law_1040 rfl rfl ?_
  refine lq_iconst C dL_law_1041 lwi_2 ?_
  refine lq_iadd C dL_law_1042 ?_
  refine lq_sld C h2 dL_law_1043 ?_
  refine lq_aload C 3 dL_law_1044 rfl rfl ?_
  refine lq_iload C 0 dL_law_1045 rfl rfl ?_
  refine lq_iconst C dL_law_1046 lwi_3 ?_
  refine lq_iadd C dL_law_1047 ?_
  refine lq_sld C h3 dL_law_1048 ?_
  refine lq_callX C [.int (xs (x3 + 1).toNatClampNeg), .int (xs (x3 + 2).toNatClampNeg), .int (xs (x3 + 3).toNatClampNeg)] [] e1 hsl (m_X10_share z.l C.2.2.2.1 (xs (x3 + 1).toNatClampNeg) (xs (x3 + 2).toNatClampNeg) (xs (x3 + 3).toNatClampNeg) σx) mv_X10_share lk_L_129 sx_0 rfl rfl rfl (Nat.le_of_ble_eq_true rfl) ⟨Nat.le_of_ble_eq_true rfl, Nat.le_of_ble_eq_true rfl⟩ dL_law_1049 ?_
  refine lq_aload C 1 dL_law_1052 rfl rfl ?_
  refine lq_aload C 3 dL_law_1053 rfl rfl ?_
  refine lq_iload C 0 dL_law_1054 rfl rfl ?_
  refine lq_iconst C dL_law_1055 lwi_1 ?_
  refine lq_iadd C dL_law_1056 ?_
  refine lq_sld C h1 dL_law_1057 ?_
  refine lq_aload C 3 dL_law_1058 rfl rfl ?_
  refine lq_iload C 0 dL_law_1059 rfl rfl ?_
  refine lq_iconst C dL_law_1060 lwi_2 ?_
  refine lq_iadd C dL_law_1061 ?_
  refine lq_sld C h2 dL_law_1062 ?_
  refine lq_aload C 3 dL_law_1063 rfl rfl ?_
  refine lq_iload C 0 dL_law_1064 rfl rfl ?_
  refine lq_iconst C dL_law_1065 lwi_3 ?_
  refine lq_iadd C dL_law_1066 ?_
  refine lq_sld C h3 dL_law_1067 ?_
  refine lq_callM C [.int (xs (x3 + 1).toNatClampNeg), .int (xs (x3 + 2).toNatClampNeg), .int (xs (x3 + 3).toNatClampNeg)] [.int r] e2 hsl (m_X11_share z.l C.2.2.2.2.1 (xs (x3 + 1).toNatClampNeg) (xs (x3 + 2).toNatClampNeg) (xs (x3 + 3).toNatClampNeg) σm) mv_X11_share lk_L_132 sm_0 rfl rfl rfl (Nat.le_of_ble_eq_true rfl) ⟨Nat.le_of_ble_eq_true rfl, Nat.le_of_ble_eq_true rfl⟩ dL_law_1068 ?_
  refine lq_eq C (tgt := 1290) dL_law_1071 (by decide) ?_
  exact kk σx1 σm1 hR1
set_option maxRecDepth 100000 in
set_option maxHeartbeats 4000000 in
theorem law_c28 {z : Cz} {b L : Nat} {xs : Nat → Int32} {αx αm : Nat → Nat} {D : va_G} {cA : Nat → ClassId} {ce sl : Nat} {Rel : St → St → Prop} (C : CL z b L xs αx αm D cA) (hsl : ce ≤ 600000 ∧ sl ≤ 7302250) (hs : Step_28 Rel) {x3 : Int32} (h1 : vp_in (x3 + 1) L) (h2 : vp_in (x3 + 2) L) (h3 : vp_in (x3 + 3) L) (h4 : vp_in (x3 + 4) L) (h5 : vp_in (x3 + 5) L)
    {σx σm : St} (hR : Rel σx σm) (kk : ∀ σx σm, Rel σx σm → LQ z b αx αm D cA ce sl σx σm 1290 [(3, .int x3), (2, .ref (αm 0)), (1, .ref (αx 0)), (0, .ref b)] []) : LQ z b αx αm D cA ce sl σx σm 1076 [(3, .int x3), (2, .ref (αm 0)), (1, .ref (αx 0)), (0, .ref b)] [] := by
  obtain ⟨r, σx1, σm1, e1, e2, hR1⟩ := hs (xs (x3 + 1).toNatClampNeg) (xs (x3 + 2).toNatClampNeg) σx σm hR
  refine lq_aload C 2 dL_law_1076 rfl rfl ?_
  refine lq_aload C 3 dL_law_1077 rfl rfl ?_
  refine lq_iload C 0 dL_law_1078 rfl rfl ?_
  refine lq_iconst C dL_law_1079 lwi_1 ?_
  refine lq_iadd C dL_law_1080 ?_
  refine lq_sld C h1 dL_law_1081 ?_
  refine lq_aload C 3 dL_law_1082 rfl rfl ?_
  refine lq_iload C 0 dL_law_1083 rfl rfl ?_
  refine lq_iconst C dL_law_1084 lwi_2 ?_
  refine lq_iadd C dL_law_1085 ?_
  refine lq_sld C h2 dL_law_1086 ?_
  refine lq_callX C [.int (xs (x3 + 1).toNatClampNeg), .int (xs (x3 + 2).toNatClampNeg)] [] e1 hsl (m_X10_bullets z.l C.2.2.2.1 (xs (x3 + 1).toNatClampNeg) (xs (x3 + 2).toNatClampNeg) σx) mv_X10_bullets lk_L_133 sx_0 rfl rfl rfl (Nat.le_of_ble_eq_true rfl) ⟨Nat.le_of_ble_eq_true rfl, Nat.le_of_ble_eq_true rfl⟩ dL_law_1087 ?_
  refine lq_aload C 1 dL_law_1090 rfl rfl ?_
  refine lq_aload C 3 dL_law_1091 rfl rfl ?_
  refine lq_iload C 0 dL_law_1092 rfl rfl ?_
  refine lq_iconst C dL_law_1093 lwi_1 ?_
  refine lq_iadd C dL_law_1094 ?_
  refine lq_sld C h1 dL_law_1095 ?_
  refine lq_aload C 3 dL_law_1096 rfl rfl ?_
  refine lq_iload C 0 dL_law_1097 rfl rfl ?_
  refine lq_iconst C dL_law_1098 lwi_2 ?_
  refine lq_iadd C dL_law_1099 ?_
  refine lq_sld C h2 dL_law_1100 ?_
  refine lq_callM C [.int (xs (x3 + 1).toNatClampNeg), .int (xs (x3 + 2).toNatClampNeg)] [.int r] e2 hsl (m_X11_bullets z.l C.2.2.2.2.1 (xs (x3 + 1).toNatClampNeg) (xs (x3 + 2).toNatClampNeg) σm) mv_X11_bullets lk_L_136 sm_0 rfl rfl rfl (Nat.le_of_ble_eq_true rfl) ⟨Nat.le_of_ble_eq_true rfl, Nat.le_of_ble_eq_true rfl⟩ dL_law_1101 ?_
  refine lq_eq C (tgt := 1290) dL_law_1104 (by decide) ?_
  exact kk σx1 σm1 hR1
set_option maxRecDepth 100000 in
set_option maxHeartbeats 4000000 in
theorem law_c29 {z : Cz} {b L : Nat} {xs : Nat → Int32} {αx αm : Nat → Nat} {D : va_G} {cA : Nat → ClassId} {ce sl : Nat} {Rel : St → St → Prop} (C : CL z b L xs αx αm D cA) (hsl : ce ≤ 600000 ∧ sl ≤ 7302250) (hs : Step_29 Rel) {x3 : Int32} (h1 : vp_in (x3 + 1) L) (h2 : vp_in (x3 + 2) L) (h3 : vp_in (x3 + 3) L) (h4 : vp_in (x3 + 4) L) (h5 : vp_in (x3 + 5) L)
    {σx σm : St} (hR : Rel σx σm) (kk : ∀ σx σm, Rel σx σm → LQ z b αx αm D cA ce sl σx σm 1290 [(3, .int x3), (2, .ref (αm 0)), (1, .ref (αx 0)), (0, .ref b)] []) : LQ z b αx αm D cA ce sl σx σm 1109 [(3, .int x3), (2, .ref (αm 0)), (1, .ref (αx 0)), (0, .ref b)] [] := by
  obtain ⟨r, σx1, σm1, e1, e2, hR1⟩ := hs (xs (x3 + 1).toNatClampNeg) (xs (x3 + 2).toNatClampNeg) (xs (x3 + 3).toNatClampNeg) σx σm hR
  refine lq_aload C 2 dL_law_1109 rfl rfl ?_
  refine lq_aload C 3 dL_law_1110 rfl rfl ?_
  refine lq_iload C 0 dL_law_1111 rfl rfl ?_
  refine lq_iconst C dL_law_1112 lwi_1 ?_
  refine lq_iadd C dL_law_1113 ?_
  refine lq_sld C h1 dL_law_1114 ?_
  refine lq_aload C 3 dL_law_1115 rfl rfl ?_
  refine lq_iload C 0 dL_law_1116 rfl rfl ?_
  refine lq_iconst C dL_law_1117 lwi_2 ?_
  refine lq_iadd C dL_law_1118 ?_
  refine lq_sld C h2 dL_law_1119 ?_
  refine lq_aload C 3 dL_law_1120 rfl rfl ?_
  refine lq_iload C 0 dL_law_1121 rfl rfl ?_
  refine lq_iconst C dL_law_1122 lwi_3 ?_
  refine lq_iadd C dL_law_1123 ?_
  refine lq_sld C h3 dL_law_1124 ?_
  refine lq_callX C [.int (xs (x3 + 1).toNatClampNeg), .int (xs (x3 + 2).toNatClampNeg), .int (xs (x3 + 3).toNatClampNeg)] [] e1 hsl (m_X10_row z.l C.2.2.2.1 (xs (x3 + 1).toNatClampNeg) (xs (x3 + 2).toNatClampNeg) (xs (x3 + 3).toNatClampNeg) σx) mv_X10_row lk_L_137 sx_0 rfl rfl rfl (Nat.le_of_ble_eq_true rfl) ⟨Nat.le_of_ble_eq_true rfl, Nat.le_of_ble_eq_true rfl⟩ dL_law_1125 ?_
  refine lq_aload C 1 dL_law_1128 rfl rfl ?_
  refine lq_aload C 3 dL_law_1129 rfl rfl ?_
  refine lq_iload C 0 dL_law_1130 rfl rfl ?_
  refine lq_iconst C dL_law_1131 lwi_1 ?_
  refine lq_iadd C dL_law_1132 ?_
  refine lq_sld C h1 dL_law_1133 ?_
  refine lq_aload C 3 dL_law_1134 rfl rfl ?_
  refine lq_iload C 0 dL_law_1135 rfl rfl ?_
  refine lq_iconst C dL_law_1136 lwi_2 ?_
  refine lq_iadd C dL_law_1137 ?_
  refine lq_sld C h2 dL_law_1138 ?_
  refine lq_aload C 3 dL_law_1139 rfl rfl ?_
  refine lq_iload C 0 dL_law_1140 rfl rfl ?_
  refine lq_iconst C dL_law_1141 lwi_3 ?_
  refine lq_iadd C dL_law_1142 ?_
  refine lq_sld C h3 dL_law_1143 ?_
  refine lq_callM C [.int (xs (x3 + 1).toNatClampNeg), .int (xs (x3 + 2).toNatClampNeg), .int (xs (x3 + 3).toNatClampNeg)] [.int r] e2 hsl (m_X11_row z.l C.2.2.2.2.1 (xs (x3 + 1).toNatClampNeg) (xs (x3 + 2).toNatClampNeg) (xs (x3 + 3).toNatClampNeg) σm) mv_X11_row lk_L_140 sm_0 rfl rfl rfl (Nat.le_of_ble_eq_true rfl) ⟨Nat.le_of_ble_eq_true rfl, Nat.le_of_ble_eq_true rfl⟩ dL_law_1144 ?_
  refine lq_eq C (tgt := 1290) dL_law_1147 (by decide) ?_
  exact kk σx1 σm1 hR1
set_option maxRecDepth 100000 in
set_option maxHeartbeats 4000000 in
theorem law_c30 {z : Cz} {b L : Nat} {xs : Nat → Int32} {αx αm : Nat → Nat} {D : va_G} {cA : Nat → ClassId} {ce sl : Nat} {Rel : St → St → Prop} (C : CL z b L xs αx αm D cA) (hsl : ce ≤ 600000 ∧ sl ≤ 7302250) (hs : Step_30 Rel) {x3 : Int32} (h1 : vp_in (x3 + 1) L) (h2 : vp_in (x3 + 2) L) (h3 : vp_in (x3 + 3) L) (h4 : vp_in (x3 + 4) L) (h5 : vp_in (x3 + 5) L)
    {σx σm : St} (hR : Rel σx σm) (kk : ∀ σx σm, Rel σx σm → LQ z b αx αm D cA ce sl σx σm 1290 [(3, .int x3), (2, .ref (αm 0)), (1, .ref (αx 0)), (0, .ref b)] []) : LQ z b αx αm D cA ce sl σx σm 1152 [(3, .int x3), (2, .ref (αm 0)), (1, .ref (αx 0)), (0, .ref b)] [] := by
  obtain ⟨r, σx1, σm1, e1, e2, hR1⟩ := hs (xs (x3 + 1).toNatClampNeg) (xs (x3 + 2).toNatClampNeg) σx σm hR
  refine lq_aload C 2 dL_law_1152 rfl rfl ?_
  refine lq_aload C 3 dL_law_1153 rfl rfl ?_
  refine lq_iload C 0 dL_law_1154 rfl rfl ?_
  refine lq_iconst C dL_law_1155 lwi_1 ?_
  refine lq_iadd C dL_law_1156 ?_
  refine lq_sld C h1 dL_law_1157 ?_
  refine lq_aload C 3 dL_law_1158 rfl rfl ?_
  refine lq_iload C 0 dL_law_1159 rfl rfl ?_
  refine lq_iconst C dL_law_1160 lwi_2 ?_
  refine lq_iadd C dL_law_1161 ?_
  refine lq_sld C h2 dL_law_1162 ?_
  refine lq_callX C [.int (xs (x3 + 1).toNatClampNeg), .int (xs (x3 + 2).toNatClampNeg)] [] e1 hsl (m_X10_goings z.l C.2.2.2.1 (xs (x3 + 1).toNatClampNeg) (xs (x3 + 2).toNatClampNeg) σx) mv_X10_goings lk_L_141 sx_0 rfl rfl rfl (Nat.le_of_ble_eq_true rfl) ⟨Nat.le_of_ble_eq_true rfl, Nat.le_of_ble_eq_true rfl⟩ dL_law_1163 ?_
  refine lq_aload C 1 dL_law_1166 rfl rfl ?_
  refine lq_aload C 3 dL_law_1167 rfl rfl ?_
  refine lq_iload C 0 dL_law_1168 rfl rfl ?_
  refine lq_iconst C dL_law_1169 lwi_1 ?_
  refine lq_iadd C dL_law_1170 ?_
  refine lq_sld C h1 dL_law_1171 ?_
  refine lq_aload C 3 dL_law_1172 rfl rfl ?_
  refine lq_iload C 0 dL_law_1173 rfl rfl ?_
  refine lq_iconst C dL_law_1174 lwi_2 ?_
  refine lq_iadd C dL_law_1175 ?_
  refine lq_sld C h2 dL_law_1176 ?_
  refine lq_callM C [.int (xs (x3 + 1).toNatClampNeg), .int (xs (x3 + 2).toNatClampNeg)] [.int r] e2 hsl (m_X11_goings z.l C.2.2.2.2.1 (xs (x3 + 1).toNatClampNeg) (xs (x3 + 2).toNatClampNeg) σm) mv_X11_goings lk_L_144 sm_0 rfl rfl rfl (Nat.le_of_ble_eq_true rfl) ⟨Nat.le_of_ble_eq_true rfl, Nat.le_of_ble_eq_true rfl⟩ dL_law_1177 ?_
  refine lq_eq C (tgt := 1290) dL_law_1180 (by decide) ?_
  exact kk σx1 σm1 hR1
set_option maxRecDepth 100000 in
set_option maxHeartbeats 4000000 in
theorem law_c31 {z : Cz} {b L : Nat} {xs : Nat → Int32} {αx αm : Nat → Nat} {D : va_G} {cA : Nat → ClassId} {ce sl : Nat} {Rel : St → St → Prop} (C : CL z b L xs αx αm D cA) (hsl : ce ≤ 600000 ∧ sl ≤ 7302250) (hs : Step_31 Rel) {x3 : Int32} (h1 : vp_in (x3 + 1) L) (h2 : vp_in (x3 + 2) L) (h3 : vp_in (x3 + 3) L) (h4 : vp_in (x3 + 4) L) (h5 : vp_in (x3 + 5) L)
    {σx σm : St} (hR : Rel σx σm) (kk : ∀ σx σm, Rel σx σm → LQ z b αx αm D cA ce sl σx σm 1290 [(3, .int x3), (2, .ref (αm 0)), (1, .ref (αx 0)), (0, .ref b)] []) : LQ z b αx αm D cA ce sl σx σm 1185 [(3, .int x3), (2, .ref (αm 0)), (1, .ref (αx 0)), (0, .ref b)] [] := by
  obtain ⟨r, σx1, σm1, e1, e2, hR1⟩ := hs (xs (x3 + 1).toNatClampNeg) (xs (x3 + 2).toNatClampNeg) σx σm hR
  refine lq_aload C 2 dL_law_1185 rfl rfl ?_
  refine lq_aload C 3 dL_law_1186 rfl rfl ?_
  refine lq_iload C 0 dL_law_1187 rfl rfl ?_
  refine lq_iconst C dL_law_1188 lwi_1 ?_
  refine lq_iadd C dL_law_1189 ?_
  refine lq_sld C h1 dL_law_1190 ?_
  refine lq_aload C 3 dL_law_1191 rfl rfl ?_
  refine lq_iload C 0 dL_law_1192 rfl rfl ?_
  refine lq_iconst C dL_law_1193 lwi_2 ?_
  refine lq_iadd C dL_law_1194 ?_
  refine lq_sld C h2 dL_law_1195 ?_
  refine lq_callX C [.int (xs (x3 + 1).toNatClampNeg), .int (xs (x3 + 2).toNatClampNeg)] [] e1 hsl (m_X10_common z.l C.2.2.2.1 (xs (x3 + 1).toNatClampNeg) (xs (x3 + 2).toNatClampNeg) σx) mv_X10_common lk_L_145 sx_0 rfl rfl rfl (Nat.le_of_ble_eq_true rfl) ⟨Nat.le_of_ble_eq_true rfl, Nat.le_of_ble_eq_true rfl⟩ dL_law_1196 ?_
  refine lq_aload C 1 dL_law_1199 rfl rfl ?_
  refine lq_aload C 3 dL_law_1200 rfl rfl ?_
  refine lq_iload C 0 dL_law_1201 rfl rfl ?_
  refine lq_iconst C dL_law_1202 lwi_1 ?_
  refine lq_iadd C dL_law_1203 ?_
  refine lq_sld C h1 dL_law_1204 ?_
  refine lq_aload C 3 dL_law_1205 rfl rfl ?_
  refine lq_iload C 0 dL_law_1206 rfl rfl ?_
  refine lq_iconst C dL_law_1207 lwi_2 ?_
  refine lq_iadd C dL_law_1208 ?_
  refine lq_sld C h2 dL_law_1209 ?_
  refine lq_callM C [.int (xs (x3 + 1).toNatClampNeg), .int (xs (x3 + 2).toNatClampNeg)] [.int r] e2 hsl (m_X11_common z.l C.2.2.2.2.1 (xs (x3 + 1).toNatClampNeg) (xs (x3 + 2).toNatClampNeg) σm) mv_X11_common lk_L_148 sm_0 rfl rfl rfl (Nat.le_of_ble_eq_true rfl) ⟨Nat.le_of_ble_eq_true rfl, Nat.le_of_ble_eq_true rfl⟩ dL_law_1210 ?_
  refine lq_eq C (tgt := 1290) dL_law_1213 (by decide) ?_
  exact kk σx1 σm1 hR1
set_option maxRecDepth 100000 in
set_option maxHeartbeats 4000000 in
theorem law_c32 {z : Cz} {b L : Nat} {xs : Nat → Int32} {αx αm : Nat → Nat} {D : va_G} {cA : Nat → ClassId} {ce sl : Nat} {Rel : St → St → Prop} (C : CL z b L xs αx αm D cA) (hsl : ce ≤ 600000 ∧ sl ≤ 7302250) (hs : Step_32 Rel) {x3 : Int32} (h1 : vp_in (x3 + 1) L) (h2 : vp_in (x3 + 2) L) (h3 : vp_in (x3 + 3) L) (h4 : vp_in (x3 + 4) L) (h5 : vp_in (x3 + 5) L)
    {σx σm : St} (hR : Rel σx σm) (kk : ∀ σx σm, Rel σx σm → LQ z b αx αm D cA ce sl σx σm 1290 [(3, .int x3), (2, .ref (αm 0)), (1, .ref (αx 0)), (0, .ref b)] []) : LQ z b αx αm D cA ce sl σx σm 1218 [(3, .int x3), (2, .ref (αm 0)), (1, .ref (αx 0)), (0, .ref b)] [] := by
  obtain ⟨r, σx1, σm1, e1, e2, hR1⟩ := hs σx σm hR
  refine lq_aload C 2 dL_law_1218 rfl rfl ?_
  refine lq_callX C [] [] e1 hsl (m_X10_image z.l C.2.2.2.1 σx) mv_X10_image lk_L_149 sx_0 rfl rfl rfl (Nat.le_of_ble_eq_true rfl) ⟨Nat.le_of_ble_eq_true rfl, Nat.le_of_ble_eq_true rfl⟩ dL_law_1219 ?_
  refine lq_aload C 1 dL_law_1222 rfl rfl ?_
  refine lq_callM C [] [.int r] e2 hsl (m_X11_image z.l C.2.2.2.2.1 σm) mv_X11_image lk_L_152 sm_0 rfl rfl rfl (Nat.le_of_ble_eq_true rfl) ⟨Nat.le_of_ble_eq_true rfl, Nat.le_of_ble_eq_true rfl⟩ dL_law_1223 ?_
  refine lq_eq C (tgt := 1290) dL_law_1226 (by decide) ?_
  exact kk σx1 σm1 hR1
set_option maxRecDepth 100000 in
set_option maxHeartbeats 4000000 in
theorem law_c33 {z : Cz} {b L : Nat} {xs : Nat → Int32} {αx αm : Nat → Nat} {D : va_G} {cA : Nat → ClassId} {ce sl : Nat} {Rel : St → St → Prop} (C : CL z b L xs αx αm D cA) (hsl : ce ≤ 600000 ∧ sl ≤ 7302250) (hs : Step_33 Rel) {x3 : Int32} (h1 : vp_in (x3 + 1) L) (h2 : vp_in (x3 + 2) L) (h3 : vp_in (x3 + 3) L) (h4 : vp_in (x3 + 4) L) (h5 : vp_in (x3 + 5) L)
    {σx σm : St} (hR : Rel σx σm) (kk : ∀ σx σm, Rel σx σm → LQ z b αx αm D cA ce sl σx σm 1290 [(3, .int x3), (2, .ref (αm 0)), (1, .ref (αx 0)), (0, .ref b)] []) : LQ z b αx αm D cA ce sl σx σm 1231 [(3, .int x3), (2, .ref (αm 0)), (1, .ref (αx 0)), (0, .ref b)] [] := by
  obtain ⟨r, σx1, σm1, e1, e2, hR1⟩ := hs (xs (x3 + 1).toNatClampNeg) σx σm hR
  refine lq_aload C 2 dL_law_1231 rfl rfl ?_
  refine lq_aload C 3 dL_law_1232 rfl rfl ?_
  refine lq_iload C 0 dL_law_1233 rfl rfl ?_
  refine lq_iconst C dL_law_1234 lwi_1 ?_
  refine lq_iadd C dL_law_1235 ?_
  refine lq_sld C h1 dL_law_1236 ?_
  refine lq_callX C [.int (xs (x3 + 1).toNatClampNeg)] [] e1 hsl (m_X10_octet z.l C.2.2.2.1 (xs (x3 + 1).toNatClampNeg) σx) mv_X10_octet lk_L_153 sx_0 rfl rfl rfl (Nat.le_of_ble_eq_true rfl) ⟨Nat.le_of_ble_eq_true rfl, Nat.le_of_ble_eq_true rfl⟩ dL_law_1237 ?_
  refine lq_aload C 1 dL_law_1240 rfl rfl ?_
  refine lq_aload C 3 dL_law_1241 rfl rfl ?_
  refine lq_iload C 0 dL_law_1242 rfl rfl ?_
  refine lq_iconst C dL_law_1243 lwi_1 ?_
  refine lq_iadd C dL_law_1244 ?_
  refine lq_sld C h1 dL_law_1245 ?_
  refine lq_callM C [.int (xs (x3 + 1).toNatClampNeg)] [.int r] e2 hsl (m_X11_octet z.l C.2.2.2.2.1 (xs (x3 + 1).toNatClampNeg) σm) mv_X11_octet lk_L_156 sm_0 rfl rfl rfl (Nat.le_of_ble_eq_true rfl) ⟨Nat.le_of_ble_eq_true rfl, Nat.le_of_ble_eq_true rfl⟩ dL_law_1246 ?_
  refine lq_eq C (tgt := 1290) dL_law_1249 (by decide) ?_
  exact kk σx1 σm1 hR1
set_option maxRecDepth 100000 in
set_option maxHeartbeats 4000000 in
theorem law_c34 {z : Cz} {b L : Nat} {xs : Nat → Int32} {αx αm : Nat → Nat} {D : va_G} {cA : Nat → ClassId} {ce sl : Nat} {Rel : St → St → Prop} (C : CL z b L xs αx αm D cA) (hsl : ce ≤ 600000 ∧ sl ≤ 7302250) (hs : Step_34 Rel) {x3 : Int32} (h1 : vp_in (x3 + 1) L) (h2 : vp_in (x3 + 2) L) (h3 : vp_in (x3 + 3) L) (h4 : vp_in (x3 + 4) L) (h5 : vp_in (x3 + 5) L)
    {σx σm : St} (hR : Rel σx σm) (kk : ∀ σx σm, Rel σx σm → LQ z b αx αm D cA ce sl σx σm 1290 [(3, .int x3), (2, .ref (αm 0)), (1, .ref (αx 0)), (0, .ref b)] []) : LQ z b αx αm D cA ce sl σx σm 1254 [(3, .int x3), (2, .ref (αm 0)), (1, .ref (αx 0)), (0, .ref b)] [] := by
  obtain ⟨r, σx1, σm1, e1, e2, hR1⟩ := hs σx σm hR
  refine lq_aload C 2 dL_law_1254 rfl rfl ?_
  refine lq_callX C [] [] e1 hsl (m_X10_on z.l C.2.2.2.1 σx) mv_X10_on lk_L_157 sx_0 rfl rfl rfl (Nat.le_of_ble_eq_true rfl) ⟨Nat.le_of_ble_eq_true rfl, Nat.le_of_ble_eq_true rfl⟩ dL_law_1255 ?_
  refine lq_aload C 1 dL_law_1258 rfl rfl ?_
  refine lq_callM C [] [.int r] e2 hsl (m_X11_on z.l C.2.2.2.2.1 σm) mv_X11_on lk_L_161 sm_0 rfl rfl rfl (Nat.le_of_ble_eq_true rfl) ⟨Nat.le_of_ble_eq_true rfl, Nat.le_of_ble_eq_true rfl⟩ dL_law_1259 ?_
  refine lq_eq C (tgt := 1290) dL_law_1262 (by decide) ?_
  exact kk σx1 σm1 hR1
set_option maxRecDepth 100000 in
set_option maxHeartbeats 4000000 in
theorem law_c35 {z : Cz} {b L : Nat} {xs : Nat → Int32} {αx αm : Nat → Nat} {D : va_G} {cA : Nat → ClassId} {ce sl : Nat} {Rel : St → St → Prop} (C : CL z b L xs αx αm D cA) (hsl : ce ≤ 600000 ∧ sl ≤ 7302250) (hs : Step_35 Rel) {x3 : Int32} (h1 : vp_in (x3 + 1) L) (h2 : vp_in (x3 + 2) L) (h3 : vp_in (x3 + 3) L) (h4 : vp_in (x3 + 4) L) (h5 : vp_in (x3 + 5) L)
    {σx σm : St} (hR : Rel σx σm) (kk : ∀ σx σm, Rel σx σm → LQ z b αx αm D cA ce sl σx σm 1290 [(3, .int x3), (2, .ref (αm 0)), (1, .ref (αx 0)), (0, .ref b)] []) : LQ z b αx αm D cA ce sl σx σm 1267 [(3, .int x3), (2, .ref (αm 0)), (1, .ref (αx 0)), (0, .ref b)] [] := by
  obtain ⟨r, σx1, σm1, e1, e2, hR1⟩ := hs (xs (x3 + 1).toNatClampNeg) σx σm hR
  refine lq_aload C 2 dL_law_1267 rfl rfl ?_
  refine lq_aload C 3 dL_law_1268 rfl rfl ?_
  refine lq_iload C 0 dL_law_1269 rfl rfl ?_
  refine lq_iconst C dL_law_1270 lwi_1 ?_
  refine lq_iadd C dL_law_1271 ?_
  refine lq_sld C h1 dL_law_1272 ?_
  refine lq_callX C [.int (xs (x3 + 1).toNatClampNeg)] [] e1 hsl (m_X10_status z.l C.2.2.2.1 (xs (x3 + 1).toNatClampNeg) σx) mv_X10_status lk_L_162 sx_0 rfl rfl rfl (Nat.le_of_ble_eq_true rfl) ⟨Nat.le_of_ble_eq_true rfl, Nat.le_of_ble_eq_true rfl⟩ dL_law_1273 ?_
  refine lq_aload C 1 dL_law_1276 rfl rfl ?_
  refine lq_aload C 3 dL_law_1277 rfl rfl ?_
  refine lq_iload C 0 dL_law_1278 rfl rfl ?_
  refine lq_iconst C dL_law_1279 lwi_1 ?_
  refine lq_iadd C dL_law_1280 ?_
  refine lq_sld C h1 dL_law_1281 ?_
  refine lq_callM C [.int (xs (x3 + 1).toNatClampNeg)] [.int r] e2 hsl (m_X11_status z.l C.2.2.2.2.1 (xs (x3 + 1).toNatClampNeg) σm) mv_X11_status lk_L_165 sm_0 rfl rfl rfl (Nat.le_of_ble_eq_true rfl) ⟨Nat.le_of_ble_eq_true rfl, Nat.le_of_ble_eq_true rfl⟩ dL_law_1282 ?_
  refine lq_eq C (tgt := 1290) dL_law_1285 (by decide) ?_
  exact kk σx1 σm1 hR1
set_option maxRecDepth 100000 in
set_option maxHeartbeats 4000000 in
theorem law_loop {z : Cz} {b L : Nat} {xs : Nat → Int32} {αx αm : Nat → Nat} {D : va_G} {cA : Nat → ClassId} {ce sl : Nat} {Rel : St → St → Prop} (C : CL z b L xs αx αm D cA) (hL : L ≤ 3072) (hsl : ce ≤ 600000 ∧ sl ≤ 7302250) (hs : StepAll Rel) :
    ∀ (n i : Nat) (x3 : Int32) (σx σm : St), x3 = nI i → i ≤ L + 6 → L + 7 ≤ i + 6 * n → Rel σx σm → LQ z b αx αm D cA ce sl σx σm 18 [(3, .int x3), (2, .ref (αm 0)), (1, .ref (αx 0)), (0, .ref b)] [] := by
  obtain ⟨s0, s1, s2, s3, s4, s5, s6, s7, s8, s9, s10, s11, s12, s13, s14, s15, s16, s17, s18, s19, s20, s21, s22, s23, s24, s25, s26, s27, s28, s29, s30, s31, s32, s33, s34, s35⟩ := hs
  intro n
  induction n with
  | zero => intro i x3 σx σm _ h1 h2; exact absurd h2 (by omega)
  | succ n ih =>
    intro i x3 σx σm e3 hi hin hR
    have eL : Int32.ofNat L = nI L := rfl
    refine lq_iload C 0 dL_law_18 rfl rfl ?_
    refine lq_aload C 3 dL_law_19 rfl rfl ?_
    refine lq_slen C dL_law_20 ?_
    refine lq_bipush C dL_law_21 lwb_6 ?_
    refine lq_isub C dL_law_23 ?_
    refine lq_gt C (tgt := 1296) dL_law_24 (by decide) (fun hc => ?_) (fun hc => ?_)
    · refine lq_iconst C dL_law_1296 lwi_1 ?_
      intro H locs ls g1 g2 hS hl
      refine va_forget (fun q hq => hS.2.2 q hq) ?_
      refine W.widen (k := 600000) (n := 7302250) hsl.1 hsl.2 ?_
      exact lw_ret C.1.1 C.1.2.1 C.1.2.2.1 C.1.2.2.2.2.2.2.2.2.1 dL_law_1297
    · have hle : i + 6 ≤ L := by
        rcases Nat.lt_or_ge L (i + 6) with q | q
        · refine absurd ?_ hc
          rw [eL, e3]
          rw [Int32.lt_iff_toInt_lt]
          rw [show (6 : Int32) = nI 6 from rfl, pk_sub_toInt (by omega) (by omega), nI_toInt (by omega)]
          omega
        · exact q
      have h0 : vp_in x3 L := by rw [e3]; exact vp_in_nI (by omega) (by omega)
      have hj : ∀ j : Nat, j < 6 → vp_in (x3 + nI j) L := fun j hj => by rw [e3, nI_add]; exact vp_in_nI (by omega) (by omega)
      have h1 : vp_in (x3 + 1) L := hj 1 (by omega)
      have h2 : vp_in (x3 + 2) L := hj 2 (by omega)
      have h3 : vp_in (x3 + 3) L := hj 3 (by omega)
      have h4 : vp_in (x3 + 4) L := hj 4 (by omega)
      have h5 : vp_in (x3 + 5) L := hj 5 (by omega)
      have kk : ∀ σx σm, Rel σx σm → LQ z b αx αm D cA ce sl σx σm 1290 [(3, .int x3), (2, .ref (αm 0)), (1, .ref (αx 0)), (0, .ref b)] [] := by
        intro σx σm hR
        refine lq_iinc C (k0 := 0) (v := x3 + 6) [(3, .int (x3 + 6)), (2, .ref (αm 0)), (1, .ref (αx 0)), (0, .ref b)] dL_law_1290 rfl (congrArg _ lwi_6) (by decide) rfl ?_
        refine lq_goto C (tgt := 18) dL_law_1293 (by decide) ?_
        exact ih (i + 6) (x3 + 6) σx σm (by rw [e3]; exact nI_add i 6) (by omega) (by omega) hR
      refine lq_aload C 3 dL_law_27 rfl rfl ?_
      refine lq_iload C 0 dL_law_28 rfl rfl ?_
      refine lq_sld C h0 dL_law_29 ?_
      refine lq_bipush C dL_law_30 lwb_63 ?_
      refine lq_iand C dL_law_32 ?_
      generalize xs x3.toNatClampNeg &&& 63 = w
      by_cases hc0 : w = 0
      · exact lq_tableIn C (tgt := 192) 0 hc0 dL_law_33 (by decide) (by decide) rfl (by decide) (law_c0 C hsl s0 h1 h2 h3 h4 h5 hR kk)
      by_cases hc1 : w = 1
      · exact lq_tableIn C (tgt := 255) 1 hc1 dL_law_33 (by decide) (by decide) rfl (by decide) (law_c1 C hsl s1 h1 h2 h3 h4 h5 hR kk)
      by_cases hc2 : w = 2
      · exact lq_tableIn C (tgt := 278) 2 hc2 dL_law_33 (by decide) (by decide) rfl (by decide) (law_c2 C hsl s2 h1 h2 h3 h4 h5 hR kk)
      by_cases hc3 : w = 3
      · exact lq_tableIn C (tgt := 291) 3 hc3 dL_law_33 (by decide) (by decide) rfl (by decide) (law_c3 C hsl s3 h1 h2 h3 h4 h5 hR kk)
      by_cases hc4 : w = 4
      · exact lq_tableIn C (tgt := 314) 4 hc4 dL_law_33 (by decide) (by decide) rfl (by decide) (law_c4 C hsl s4 h1 h2 h3 h4 h5 hR kk)
      by_cases hc5 : w = 5
      · exact lq_tableIn C (tgt := 337) 5 hc5 dL_law_33 (by decide) (by decide) rfl (by decide) (law_c5 C hsl s5 h1 h2 h3 h4 h5 hR kk)
      by_cases hc6 : w = 6
      · exact lq_tableIn C (tgt := 380) 6 hc6 dL_law_33 (by decide) (by decide) rfl (by decide) (law_c6 C hsl s6 h1 h2 h3 h4 h5 hR kk)
      by_cases hc7 : w = 7
      · exact lq_tableIn C (tgt := 403) 7 hc7 dL_law_33 (by decide) (by decide) rfl (by decide) (law_c7 C hsl s7 h1 h2 h3 h4 h5 hR kk)
      by_cases hc8 : w = 8
      · exact lq_tableIn C (tgt := 436) 8 hc8 dL_law_33 (by decide) (by decide) rfl (by decide) (law_c8 C hsl s8 h1 h2 h3 h4 h5 hR kk)
      by_cases hc9 : w = 9
      · exact lq_tableIn C (tgt := 469) 9 hc9 dL_law_33 (by decide) (by decide) rfl (by decide) (law_c9 C hsl s9 h1 h2 h3 h4 h5 hR kk)
      by_cases hc10 : w = 10
      · exact lq_tableIn C (tgt := 502) 10 hc10 dL_law_33 (by decide) (by decide) rfl (by decide) (law_c10 C hsl s10 h1 h2 h3 h4 h5 hR kk)
      by_cases hc11 : w = 11
      · exact lq_tableIn C (tgt := 525) 11 hc11 dL_law_33 (by decide) (by decide) rfl (by decide) (law_c11 C hsl s11 h1 h2 h3 h4 h5 hR kk)
      by_cases hc12 : w = 12
      · exact lq_tableIn C (tgt := 558) 12 hc12 dL_law_33 (by decide) (by decide) rfl (by decide) (law_c12 C hsl s12 h1 h2 h3 h4 h5 hR kk)
      by_cases hc13 : w = 13
      · exact lq_tableIn C (tgt := 591) 13 hc13 dL_law_33 (by decide) (by decide) rfl (by decide) (law_c13 C hsl s13 h1 h2 h3 h4 h5 hR kk)
      by_cases hc14 : w = 14
      · exact lq_tableIn C (tgt := 634) 14 hc14 dL_law_33 (by decide) (by decide) rfl (by decide) (law_c14 C hsl s14 h1 h2 h3 h4 h5 hR kk)
      by_cases hc15 : w = 15
      · exact lq_tableIn C (tgt := 687) 15 hc15 dL_law_33 (by decide) (by decide) rfl (by decide) (law_c15 C hsl s15 h1 h2 h3 h4 h5 hR kk)
      by_cases hc16 : w = 16
      · exact lq_tableIn C (tgt := 730) 16 hc16 dL_law_33 (by decide) (by decide) rfl (by decide) (law_c16 C hsl s16 h1 h2 h3 h4 h5 hR kk)
      by_cases hc17 : w = 17
      · exact lq_tableIn C (tgt := 753) 17 hc17 dL_law_33 (by decide) (by decide) rfl (by decide) (law_c17 C hsl s17 h1 h2 h3 h4 h5 hR kk)
      by_cases hc18 : w = 18
      · exact lq_tableIn C (tgt := 786) 18 hc18 dL_law_33 (by decide) (by decide) rfl (by decide) (law_c18 C hsl s18 h1 h2 h3 h4 h5 hR kk)
      by_cases hc19 : w = 19
      · exact lq_tableIn C (tgt := 809) 19 hc19 dL_law_33 (by decide) (by decide) rfl (by decide) (law_c19 C hsl s19 h1 h2 h3 h4 h5 hR kk)
      by_cases hc20 : w = 20
      · exact lq_tableIn C (tgt := 842) 20 hc20 dL_law_33 (by decide) (by decide) rfl (by decide) (law_c20 C hsl s20 h1 h2 h3 h4 h5 hR kk)
      by_cases hc21 : w = 21
      · exact lq_tableIn C (tgt := 875) 21 hc21 dL_law_33 (by decide) (by decide) rfl (by decide) (law_c21 C hsl s21 h1 h2 h3 h4 h5 hR kk)
      by_cases hc22 : w = 22
      · exact lq_tableIn C (tgt := 898) 22 hc22 dL_law_33 (by decide) (by decide) rfl (by decide) (law_c22 C hsl s22 h1 h2 h3 h4 h5 hR kk)
      by_cases hc23 : w = 23
      · exact lq_tableIn C (tgt := 911) 23 hc23 dL_law_33 (by decide) (by decide) rfl (by decide) (law_c23 C hsl s23 h1 h2 h3 h4 h5 hR kk)
      by_cases hc24 : w = 24
      · exact lq_tableIn C (tgt := 934) 24 hc24 dL_law_33 (by decide) (by decide) rfl (by decide) (law_c24 C hsl s24 h1 h2 h3 h4 h5 hR kk)
      by_cases hc25 : w = 25
      · exact lq_tableIn C (tgt := 967) 25 hc25 dL_law_33 (by decide) (by decide) rfl (by decide) (law_c25 C hsl s25 h1 h2 h3 h4 h5 hR kk)
      by_cases hc26 : w = 26
      · exact lq_tableIn C (tgt := 1000) 26 hc26 dL_law_33 (by decide) (by decide) rfl (by decide) (law_c26 C hsl s26 h1 h2 h3 h4 h5 hR kk)
      by_cases hc27 : w = 27
      · exact lq_tableIn C (tgt := 1033) 27 hc27 dL_law_33 (by decide) (by decide) rfl (by decide) (law_c27 C hsl s27 h1 h2 h3 h4 h5 hR kk)
      by_cases hc28 : w = 28
      · exact lq_tableIn C (tgt := 1076) 28 hc28 dL_law_33 (by decide) (by decide) rfl (by decide) (law_c28 C hsl s28 h1 h2 h3 h4 h5 hR kk)
      by_cases hc29 : w = 29
      · exact lq_tableIn C (tgt := 1109) 29 hc29 dL_law_33 (by decide) (by decide) rfl (by decide) (law_c29 C hsl s29 h1 h2 h3 h4 h5 hR kk)
      by_cases hc30 : w = 30
      · exact lq_tableIn C (tgt := 1152) 30 hc30 dL_law_33 (by decide) (by decide) rfl (by decide) (law_c30 C hsl s30 h1 h2 h3 h4 h5 hR kk)
      by_cases hc31 : w = 31
      · exact lq_tableIn C (tgt := 1185) 31 hc31 dL_law_33 (by decide) (by decide) rfl (by decide) (law_c31 C hsl s31 h1 h2 h3 h4 h5 hR kk)
      by_cases hc32 : w = 32
      · exact lq_tableIn C (tgt := 1218) 32 hc32 dL_law_33 (by decide) (by decide) rfl (by decide) (law_c32 C hsl s32 h1 h2 h3 h4 h5 hR kk)
      by_cases hc33 : w = 33
      · exact lq_tableIn C (tgt := 1231) 33 hc33 dL_law_33 (by decide) (by decide) rfl (by decide) (law_c33 C hsl s33 h1 h2 h3 h4 h5 hR kk)
      by_cases hc34 : w = 34
      · exact lq_tableIn C (tgt := 1254) 34 hc34 dL_law_33 (by decide) (by decide) rfl (by decide) (law_c34 C hsl s34 h1 h2 h3 h4 h5 hR kk)
      by_cases hc35 : w = 35
      · exact lq_tableIn C (tgt := 1267) 35 hc35 dL_law_33 (by decide) (by decide) rfl (by decide) (law_c35 C hsl s35 h1 h2 h3 h4 h5 hR kk)
      refine lq_tableOut C (tgt := 1290) dL_law_33 (by have := lv_neT (a := 0) hc0 (by decide); have := lv_neT (a := 1) hc1 (by decide); have := lv_neT (a := 2) hc2 (by decide); have := lv_neT (a := 3) hc3 (by decide); have := lv_neT (a := 4) hc4 (by decide); have := lv_neT (a := 5) hc5 (by decide); have := lv_neT (a := 6) hc6 (by decide); have := lv_neT (a := 7) hc7 (by decide); have := lv_neT (a := 8) hc8 (by decide); have := lv_neT (a := 9) hc9 (by decide); have := lv_neT (a := 10) hc10 (by decide); have := lv_neT (a := 11) hc11 (by decide); have := lv_neT (a := 12) hc12 (by decide); have := lv_neT (a := 13) hc13 (by decide); have := lv_neT (a := 14) hc14 (by decide); have := lv_neT (a := 15) hc15 (by decide); have := lv_neT (a := 16) hc16 (by decide); have := lv_neT (a := 17) hc17 (by decide); have := lv_neT (a := 18) hc18 (by decide); have := lv_neT (a := 19) hc19 (by decide); have := lv_neT (a := 20) hc20 (by decide); have := lv_neT (a := 21) hc21 (by decide); have := lv_neT (a := 22) hc22 (by decide); have := lv_neT (a := 23) hc23 (by decide); have := lv_neT (a := 24) hc24 (by decide); have := lv_neT (a := 25) hc25 (by decide); have := lv_neT (a := 26) hc26 (by decide); have := lv_neT (a := 27) hc27 (by decide); have := lv_neT (a := 28) hc28 (by decide); have := lv_neT (a := 29) hc29 (by decide); have := lv_neT (a := 30) hc30 (by decide); have := lv_neT (a := 31) hc31 (by decide); have := lv_neT (a := 32) hc32 (by decide); have := lv_neT (a := 33) hc33 (by decide); have := lv_neT (a := 34) hc34 (by decide); have := lv_neT (a := 35) hc35 (by decide); omega) (by decide) ?_
      exact kk σx σm hR
