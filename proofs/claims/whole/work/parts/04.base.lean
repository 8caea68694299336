/-! ===== the pure store; the world that it stands for; the judgement 'the machine here does what f says' ===== -/
abbrev St : Type := (Nat → Nat → Int32) × (Nat → Nat → Int64) × (Nat → Nat → Nat)
def gI (σ : St) (o k : Nat) : Int32 := σ.1 o k
def gL (σ : St) (o k : Nat) : Int64 := σ.2.1 o k
def gR (σ : St) (o k : Nat) : Nat := σ.2.2 o k
def sI (σ : St) (o k : Nat) (v : Int32) : St := (fun a b => if a = o ∧ b = k then v else σ.1 a b, σ.2)
def sL (σ : St) (o k : Nat) (v : Int64) : St := (σ.1, fun a b => if a = o ∧ b = k then v else σ.2.1 a b, σ.2.2)
def sR (σ : St) (o k : Nat) (v : Nat) : St := (σ.1, σ.2.1, fun a b => if a = o ∧ b = k then v else σ.2.2 a b)
/-- a piece of one row of ints copied into another one -/
def sCp (σ : St) (src dst sp dp n : Nat) : St := (fun a b => if a = dst ∧ dp ≤ b ∧ b < dp + n then σ.1 src (sp + (b - dp)) else σ.1 a b, σ.2)
def ix (i : Int32) : Nat := i.toNatClampNeg
def inb (i : Int32) (n : Nat) : Bool := !(decide (i < 0) || decide (n ≤ i.toNatClampNeg))
def zok (v : Int32) : Bool := decide (v = 0) || decide (v = 1)
theorem inb_in {i : Int32} {n : Nat} (h : inb i n = true) : vp_in i n := by
  simp only [inb, Bool.not_eq_true', Bool.or_eq_false_iff, decide_eq_false_iff_not] at h
  exact fun q => q.elim h.1 h.2
theorem zok_n {v : Int32} (h : zok v = true) : narrow .boolean (.int v) = .int v ∧ fits .boolean (.int v) = true := by
  simp only [zok, Bool.or_eq_true, decide_eq_true_eq] at h
  rcases h with rfl | rfl <;> exact ⟨rfl, rfl⟩
/-- the shape of a cell: an array (0 ints, 1 longs, 2 booleans; how long), or an object (the number of its class; of each field: 0 an int, 1 a long, 2 a reference that may change, n + 3 the reference of cell n for good) -/
abbrev Sh : Type := (Nat × Nat) ⊕ (Nat × List Nat)
def fval (α : Nat → Nat) (σ : St) (o k kind : Nat) : Value := match kind with
  | 0 => .int (gI σ o k)
  | 1 => .long (gL σ o k)
  | 2 => .ref (α (gR σ o k))
  | n + 3 => .ref (α n)
def cel (α : Nat → Nat) (cA : Nat → ClassId) (σ : St) (o : Nat) (sh : Sh) : Nat × va_E := (α o, match sh with
  | .inl (0, n) => .inl (cA 0, n, .inl (gI σ o))
  | .inl (1, n) => .inl (cA 1, n, .inr (.inl (gL σ o)))
  | .inl (_ + 2, n) => .inl (cA 2, n, .inl (gI σ o))
  | .inr (ci, ks) => .inr (ci, ks.mapIdx (fun k kd => fval α σ o k kd)))
def cels (shs : List Sh) (α : Nat → Nat) (cA : Nat → ClassId) (σ : St) : va_W := shs.mapIdx (fun o sh => cel α cA σ o sh)
abbrev tys (cA : Nat → ClassId) : List (ClassId × FieldType) := [(cA 0, .int), (cA 1, .long), (cA 2, .boolean)]
def axs (n : Nat) (α : Nat → Nat) : Nat → Prop := fun q => ∃ o, o < n ∧ q = α o
def inj (n : Nat) (α : Nat → Nat) : Prop := ∀ i j, i < n → j < n → α i = α j → i = j
abbrev clX : List vw_C := [(RX0, TX0, 3), (RX1, TX1, 5), (RX2, TX2, 12), (RX3, TX3, 2), (RX4, TX4, 11), (RX5, TX5, 3), (RX6, TX6, 10), (RX7, TX7, 5), (RX8, TX8, 5), (RX9, TX9, 15), (RX10, TX10, 12), (RX11, TX11, 73)]
theorem cels_at {shs : List Sh} {α : Nat → Nat} {cA : Nat → ClassId} {σ : St} {o : Nat} {sh : Sh} (h : shs[o]? = some sh) : (cels shs α cA σ)[o]? = some (cel α cA σ o sh) := by
  simp [cels, List.getElem?_mapIdx, h]
theorem cels_lt {shs : List Sh} {o : Nat} {sh : Sh} (h : shs[o]? = some sh) : o < shs.length := (List.getElem?_eq_some_iff.mp h).1
theorem cels_of {shs : List Sh} {α : Nat → Nat} {cA : Nat → ClassId} {σ : St} {o : Nat} {q : Nat × va_E} (h : (cels shs α cA σ)[o]? = some q) : ∃ sh, shs[o]? = some sh ∧ q = cel α cA σ o sh := by
  simp only [cels, List.getElem?_mapIdx, Option.map_eq_some_iff] at h
  obtain ⟨sh, h1, h2⟩ := h
  exact ⟨sh, h1, h2.symm⟩
theorem cels_D {shs : List Sh} {α : Nat → Nat} {cA : Nat → ClassId} {σ : St} (hi : inj shs.length α) : va_D (axs shs.length α) (cels shs α cA σ) := by
  refine ⟨fun i j p q h1 h2 h3 => ?_, fun k q h => ?_⟩
  · obtain ⟨s1, a1, rfl⟩ := cels_of h1
    obtain ⟨s2, a2, rfl⟩ := cels_of h2
    exact hi i j (cels_lt a1) (cels_lt a2) h3
  · obtain ⟨s1, a1, rfl⟩ := cels_of h
    exact ⟨k, cels_lt a1, rfl⟩
/-- one cell changed: the others are as they were -/
theorem cels_set {shs : List Sh} {α : Nat → Nat} {cA : Nat → ClassId} {σ τ : St} {o : Nat} {sh : Sh} (h : shs[o]? = some sh) (hI : ∀ a, a ≠ o → gI τ a = gI σ a) (hL : ∀ a, a ≠ o → gL τ a = gL σ a) (hR : ∀ a, a ≠ o → gR τ a = gR σ a) : (cels shs α cA σ).set o (cel α cA τ o sh) = cels shs α cA τ := by
  have hlt := cels_lt h
  apply List.ext_getElem?
  intro i
  by_cases hio : i = o
  · subst hio
    rw [List.getElem?_set_self (by simp [cels, hlt]), cels_at h]
  · rw [List.getElem?_set_ne (Ne.symm hio)]
    cases hs : shs[i]? with
    | none => simp [cels, List.getElem?_mapIdx, hs]
    | some sh2 =>
      rw [cels_at hs, cels_at hs]
      have e1 := hI i hio
      have e2 := hL i hio
      have e3 := hR i hio
      have ef : ∀ k kd, fval α σ i k kd = fval α τ i k kd := by
        intro k kd
        match kd with
        | 0 => simp [fval, e1]
        | 1 => simp [fval, e2]
        | 2 => simp [fval, e3]
        | n + 3 => rfl
      match sh2 with
      | .inl (0, n) => simp [cel, e1]
      | .inl (1, n) => simp [cel, e2]
      | .inl (m + 2, n) => simp [cel, e1]
      | .inr (ci, ks) => simp [cel, ef]
theorem gI_sI (σ : St) (o k : Nat) (v : Int32) (a b : Nat) : gI (sI σ o k v) a b = if a = o ∧ b = k then v else gI σ a b := rfl
theorem gL_sL (σ : St) (o k : Nat) (v : Int64) (a b : Nat) : gL (sL σ o k v) a b = if a = o ∧ b = k then v else gL σ a b := rfl
theorem gR_sR (σ : St) (o k : Nat) (v : Nat) (a b : Nat) : gR (sR σ o k v) a b = if a = o ∧ b = k then v else gR σ a b := rfl
theorem gL_sI (σ : St) (o k : Nat) (v : Int32) (a b : Nat) : gL (sI σ o k v) a b = gL σ a b := rfl
theorem gR_sI (σ : St) (o k : Nat) (v : Int32) (a b : Nat) : gR (sI σ o k v) a b = gR σ a b := rfl
theorem gI_sL (σ : St) (o k : Nat) (v : Int64) (a b : Nat) : gI (sL σ o k v) a b = gI σ a b := rfl
theorem gR_sL (σ : St) (o k : Nat) (v : Int64) (a b : Nat) : gR (sL σ o k v) a b = gR σ a b := rfl
theorem gI_sR (σ : St) (o k : Nat) (v : Nat) (a b : Nat) : gI (sR σ o k v) a b = gI σ a b := rfl
theorem gL_sR (σ : St) (o k : Nat) (v : Nat) (a b : Nat) : gL (sR σ o k v) a b = gL σ a b := rfl
theorem gI_sCp (σ : St) (src dst sp dp n a b : Nat) : gI (sCp σ src dst sp dp n) a b = if a = dst ∧ dp ≤ b ∧ b < dp + n then gI σ src (sp + (b - dp)) else gI σ a b := rfl
theorem gL_sCp (σ : St) (src dst sp dp n a b : Nat) : gL (sCp σ src dst sp dp n) a b = gL σ a b := rfl
theorem gR_sCp (σ : St) (src dst sp dp n a b : Nat) : gR (sCp σ src dst sp dp n) a b = gR σ a b := rfl
theorem gI_sI_o {σ : St} {o k : Nat} {v : Int32} {a : Nat} (h : a ≠ o) : gI (sI σ o k v) a = gI σ a := funext fun b => by rw [gI_sI, if_neg (fun q => h q.1)]
theorem gL_sL_o {σ : St} {o k : Nat} {v : Int64} {a : Nat} (h : a ≠ o) : gL (sL σ o k v) a = gL σ a := funext fun b => by rw [gL_sL, if_neg (fun q => h q.1)]
theorem gR_sR_o {σ : St} {o k : Nat} {v : Nat} {a : Nat} (h : a ≠ o) : gR (sR σ o k v) a = gR σ a := funext fun b => by rw [gR_sR, if_neg (fun q => h q.1)]
theorem gI_sCp_o {σ : St} {src dst sp dp n a : Nat} (h : a ≠ dst) : gI (sCp σ src dst sp dp n) a = gI σ a := funext fun b => by rw [gI_sCp, if_neg (fun q => h q.1)]
/-- fields: one put -/
theorem fs_set {α : Nat → Nat} {σ τ : St} {o k kd : Nat} {ks : List Nat} (h : ks[k]? = some kd) (hI : ∀ j, j ≠ k → gI τ o j = gI σ o j) (hL : ∀ j, j ≠ k → gL τ o j = gL σ o j) (hR : ∀ j, j ≠ k → gR τ o j = gR σ o j) : (ks.mapIdx (fun k kd => fval α σ o k kd)).set k (fval α τ o k kd) = ks.mapIdx (fun k kd => fval α τ o k kd) := by
  have hlt := (List.getElem?_eq_some_iff.mp h).1
  apply List.ext_getElem?
  intro i
  by_cases hik : i = k
  · subst hik
    rw [List.getElem?_set_self (by simpa using hlt), List.getElem?_mapIdx, h]
    rfl
  · rw [List.getElem?_set_ne (Ne.symm hik), List.getElem?_mapIdx, List.getElem?_mapIdx]
    cases hs : ks[i]? with
    | none => rfl
    | some kd2 =>
      show some _ = some _
      congr 1
      match kd2 with
      | 0 => simp [fval, hI i hik]
      | 1 => simp [fval, hL i hik]
      | 2 => simp [fval, hR i hik]
      | n + 3 => rfl
theorem fs_at {α : Nat → Nat} {σ : St} {o k kd : Nat} {ks : List Nat} (h : ks[k]? = some kd) : (ks.mapIdx (fun k kd => fval α σ o k kd))[k]? = some (fval α σ o k kd) := by
  rw [List.getElem?_mapIdx, h]
  rfl
theorem fs_len {α : Nat → Nat} {σ : St} {o k kd : Nat} {ks : List Nat} (h : ks[k]? = some kd) : k < (ks.mapIdx (fun k kd => fval α σ o k kd)).length := by
  have hlt := (List.getElem?_eq_some_iff.mp h).1
  simpa using hlt
/-- the machine's own things, in one: program, launch, environment, room, state at the entry, method, arguments, frames below, the method's record, its code -/
abbrev Cz : Type := Program × Launch × Env × Room × State × MethodId × Array Value × List Frame × Method × Code
abbrev Cz.p (z : Cz) : Program := z.1
abbrev Cz.l (z : Cz) : Launch := z.2.1
abbrev Cz.e (z : Cz) : Env := z.2.2.1
abbrev Cz.R (z : Cz) : Room := z.2.2.2.1
abbrev Cz.s (z : Cz) : State := z.2.2.2.2.1
abbrev Cz.m (z : Cz) : MethodId := z.2.2.2.2.2.1
abbrev Cz.args (z : Cz) : Array Value := z.2.2.2.2.2.2.1
abbrev Cz.below (z : Cz) : List Frame := z.2.2.2.2.2.2.2.1
abbrev Cz.meth (z : Cz) : Method := z.2.2.2.2.2.2.2.2.1
abbrev Cz.c (z : Cz) : Code := z.2.2.2.2.2.2.2.2.2
abbrev mkz (p : Program) (l : Launch) (e : Env) (R : Room) (s : State) (m : MethodId) (args : Array Value) (below : List Frame) (meth : Method) (c : Code) : Cz := (p, l, e, R, s, m, args, below, meth, c)
def emI (r : Int32) : Option Value := some (.int r)
def emL (r : Int64) : Option Value := some (.long r)
def emV (_ : Unit) : Option Value := none
def qc {ρ : Type} (em : ρ → Option Value) (shs : List Sh) (α : Nat → Nat) (D : va_G) (cA : Nat → ClassId) (r : ρ) (σ : St) : Array Value → State → Outcome → State → Prop := fun _ st o t => (o = .returned (em r) ∧ va_P D clX (cels shs α cA σ) t.heap ∧ va_K D clX (tys cA) t) ∧ va_F (axs shs.length α) st t
def RX {ρ : Type} (em : ρ → Option Value) (shs : List Sh) (α : Nat → Nat) (D : va_G) (cA : Nat → ClassId) (z : Cz) (nL : Nat) (σ : St) (pc : Nat) (lv : List (Nat × Value)) (st : List Value) (f : Option (ρ × St)) : Prop :=
  ∀ r σ', f = some (r, σ') → ∀ (H : Heap) (locs : List Loc) (ls : Array Slot), va_P D clX (cels shs α cA σ) H → va_S (axs shs.length α) z.s.heap H locs → lv_has ls nL lv → W z.p z.l z.e z.R z.s z.m z.args z.below z.meth z.c H locs 0 0 (MQ z.below (qc em shs α D cA r σ') z.args z.s 0 0 (axs shs.length α)) (F0 z.m pc ls st)
def CX (shs : List Sh) (α : Nat → Nat) (D : va_G) (cA : Nat → ClassId) (z : Cz) (own : String) (cc : ByteArray) (nL : Nat) (ret : Option FieldType) (fr lo : Nat) : Prop :=
  z.p.tables.exec = Jvm.exec ∧ z.c.code = cc ∧ z.c.maxLocals = nL ∧ z.s.vm.findClass own = some z.m.cls ∧ (∀ w ∈ tbG, w.before z.args z.s = true) ∧ va_K D clX (tys cA) z.s ∧ inj shs.length α ∧ z.meth.sig.returnType = ret ∧ z.meth.locks = false ∧ z.R = { frames := fr, cells := 0, slots := 0, locals := lo }
def CT {ρ : Type} (shs : List Sh) (l : Launch) (y : MethodName) (cc : ByteArray) (maxL : Nat) (ret : Option FieldType) (fr lo : Nat) (em : ρ → Option Value) (α : Nat → Nat) (D : va_G) (cA : Nat → ClassId) (as : List Value) (σ : St) (f : Option (ρ × St)) : Prop :=
  ∀ r σ', f = some (r, σ') → Met l y (.code y cc maxL ret :: tbG) { frames := fr, cells := 0, slots := 0, locals := lo } (va_Pc as (fun U => va_P D clX (cels shs α cA σ) U.heap ∧ va_K D clX (tys cA) U)) (qc em shs α D cA r σ') 0 0 (axs shs.length α)
/-- what the tables say of a class: its fields -/
def FC (ci : Nat) (Cn : String) (T : u_T) (ty : Nat → FieldType) (N : Nat) : Prop := clX[ci]? = some (Cn, T, N) ∧ (∀ w ∈ u_ws Cn T N, w ∈ tbG) ∧ (∀ k, k < N → parseFieldDescriptor (T k).2.2.1 = some (ty k)) ∧ ∀ a, a < N → ∀ b, b < N → a ≠ b → (T a).2.1 ≠ (T b).2.1
/-- what the tables say of a method: one of objects, one of the class -/
def MV (y : MethodName) (cc : ByteArray) (maxL : Nat) (ret : Option FieldType) (n : Nat) : Prop := Cond.code y cc maxL ret ∈ tbG ∧ Cond.instanceMethod y ∈ tbG ∧ Cond.selects y.cls y y ∈ tbG ∧ Cond.initialized y.cls ∈ tbG ∧ y.cls ≠ "java/lang/invoke/MethodHandle" ∧ y.cls ≠ "java/lang/invoke/VarHandle" ∧ (parseMethodDescriptor y.desc).map (fun d => d.parameters.length) = some n
def MS (y : MethodName) (cc : ByteArray) (maxL : Nat) (ret : Option FieldType) (n : Nat) : Prop := Cond.code y cc maxL ret ∈ tbG ∧ Cond.static y ∈ tbG ∧ Cond.initialized y.cls ∈ tbG ∧ y.cls ≠ "java/lang/invoke/MethodHandle" ∧ y.cls ≠ "java/lang/invoke/VarHandle" ∧ (parseMethodDescriptor y.desc).map (fun d => d.parameters.length) = some n
