/-! ONE METHOD'S BODY, over memories by numbers -/
/-- a method: its name, code, locals, answer; frames and locals that its calls may take -/
abbrev Mi : Type := MethodName × ByteArray × Nat × Option FieldType × Nat × Nat
def miW (y : Mi) : List Cond := .code y.1 y.2.1 y.2.2.1 y.2.2.2.1 :: wsL_law
def isNest (w : Cond) : Bool := match w with
  | .fieldLinkNest .. => true
  | .methodLinkNest .. => true
  | .castable .. => true
  | .declares .. => true
  | _ => false
/-- what the tables say of private members of nest mates -/
def Nst (U : State) : Prop := ∀ w ∈ tables_1, isNest w = true → va_Nw w U
theorem isNest_tables {w : Cond} (h : isNest w = true) : w.onTables = true := by
  cases w <;> first | rfl | cases h
theorem Nst.same {u U : State} (h : u.vm = U.vm) (hN : Nst u) : Nst U := fun w hw hi => va_Nw.same (isNest_tables hi) h (hN w hw hi)
theorem Nst.warm {s U : State} (hW : s.WarmedH U.vm) (hN : Nst s) : Nst U := fun w hw hi => by
  have h := hN w hw hi
  cases w <;> first | exact va_Nw.warmF hW h | exact va_Nw.warmM hW h | exact va_Nw.warmC hW h | exact va_Nw.warmD hW h | cases hi
def strW : List (Nat × String) := tables_1.filterMap (fun w => match w with
  | .stringRef _ k t => some (k, t)
  | _ => none)
theorem va_AOA.moved {ty : FieldType} {u U : State} (hvm : u.vm.Alike U.vm) (h : va_AOA ty u) : va_AOA ty U := by
  have h0 := h
  unfold va_AOA Cond.before Cond.holds at h0
  simp only [Cond.value, beq_iff_eq] at h0
  cases hc : u.vm.findClass (FieldType.array ty).toString with
  | none => rw [hc] at h0; cases h0
  | some comp =>
    rw [hc] at h0
    simp only [Option.bind_some, Option.bind_eq_some_iff, Option.map_eq_some_iff] at h0
    obtain ⟨c, hi, k, hk, hb⟩ := h0
    obtain ⟨k', hk', he⟩ := hvm.2.2 _ _ hk
    have hi' : (U.vm.classes.findIdx? fun (x : Class) => match x.kind with | .array component _ => component == comp | _ => false) = some c := by
      refine (va_idx_bare U.vm comp).symm.trans ?_
      rw [hvm.bare_eq]
      exact (va_idx_bare u.vm comp).trans hi
    have f1 : U.vm.findClass (FieldType.array ty).toString = some comp := by rw [hvm.findClass]; exact hc
    unfold va_AOA Cond.before Cond.holds
    simp only [Cond.value]
    rw [f1, Option.bind_some]
    refine (congrArg (fun o : Option Nat => (o.bind (fun c => (U.vm.classes[c]?).map fun (k : Class) => match k.kind with | .array _ t => decide (t = FieldType.array ty) && decide (U.vm.findClass ("[" ++ (FieldType.array ty).toString) = some c) | _ => false) == some true)) hi').trans ?_
    rw [beq_iff_eq, Option.bind_some, hk', Option.map_some]
    refine congrArg some ?_
    rw [he]
    rw [hvm.findClass]
    exact hb
/-- the classes of the arrays over references -/
def Arr (U : State) : Prop := va_AO "Choicepoint$Found" U ∧ va_AO "Choicepoint$Level" U ∧ va_AO "Choicepoint$Rule" U ∧ va_AO "Choicepoint$Scope" U ∧ va_AOA .int U
theorem Arr.moved {u U : State} (hvm : u.vm.Alike U.vm) (h : Arr u) : Arr U := ⟨h.1.moved hvm, h.2.1.moved hvm, h.2.2.1.moved hvm, h.2.2.2.1.moved hvm, h.2.2.2.2.moved hvm⟩
def Str (U : State) : Prop := (∀ q ∈ strW, ∃ a : Nat, vk_R RX11 q.1 q.2 a U) ∧ Arr U
theorem Str.same {u U : State} (h : U.vm = u.vm) (hN : Str u) : Str U := ⟨fun q hq => by
  obtain ⟨a, h1⟩ := hN.1 q hq
  exact ⟨a, vk_R.same h h1⟩, hN.2.moved (by rw [h]; exact Vm.Alike.refl _)⟩
theorem Str.warm {s U : State} (hW : s.WarmedH U.vm) (hN : Str s) : Str U := ⟨fun q hq => by
  obtain ⟨a, h1⟩ := hN.1 q hq
  exact ⟨a, vk_R.warm hW h1⟩, hN.2.moved hW.alike⟩
def Thr (A : Nat → Prop) (U : State) (H : Heap) : Prop := vx_Zq Bundle.tN "UNASSIGNED_STACK" Bundle.steD A U H ∧ vx_Zq Bundle.tN "SUPPRESSED_SENTINEL" Bundle.listD A U H
theorem Thr.go {A B : Nat → Prop} {s U : State} {H0 H : Heap} (h : Thr A s H0) (hvm : s.vm.Alike U.vm) (hk : ∀ a : Nat, a < H0.size → ¬ A a → H[a]? = H0[a]?) (hAB : ∀ q, B q → A q) : Thr B U H :=
  ⟨((vx_Zq.moved hvm h.1).kept hk).narrow hAB, ((vx_Zq.moved hvm h.2).kept hk).narrow hAB⟩
def tyk (kd : Nat) : FieldType := match kd with
  | 13 => .int
  | 14 => .boolean
  | 15 => .object "Choicepoint$Found"
  | 16 => .object "Choicepoint$Level"
  | 17 => .object "Choicepoint$Rule"
  | 18 => .object "Choicepoint$Scope"
  | _ => .array .int
def tyl (dA : Nat → ClassId) : List (ClassId × FieldType) := [13, 14, 15, 16, 17, 18, 19].map (fun k => (dA k, tyk k))
theorem tyl_at {dA : Nat → ClassId} {k : Nat} (h : 13 ≤ k) (h2 : k < 20) : (tyl dA)[k - 13]? = some (dA k, tyk k) := by
  rcases (show k = 13 ∨ k = 14 ∨ k = 15 ∨ k = 16 ∨ k = 17 ∨ k = 18 ∨ k = 19 by omega) with rfl | rfl | rfl | rfl | rfl | rfl | rfl <;> rfl
/-- what stays the same while a method's body runs -/
def Cx (y : Mi) (D : va_G) (dA : Nat → ClassId) (A : Nat → Prop) (p : Program) (l : Launch) (R : Room) (s : State) (mid : MethodId) (args : Array Value) (meth : Method) (c : Code) : Prop :=
  p.tables.exec = Jvm.exec ∧ c.code = y.2.1 ∧ c.maxLocals = y.2.2.1 ∧ meth.sig.returnType = y.2.2.2.1 ∧ meth.locks = false ∧ s.vm.findClass y.1.cls = some mid.cls ∧ (∀ w ∈ miW y, w.before args s = true) ∧ l.stackTraces = false ∧ (∀ x ∈ c.exceptionTable.toList, False) ∧ meth.name = y.1.name ∧ va_K D vwCl (tyl dA) s ∧ Nst s ∧ Str s ∧ Thr A s s.heap ∧ (∀ q, s.heap.size ≤ q → A q) ∧ y.2.2.2.2.1 ≤ R.frames ∧ y.2.2.2.2.2 ≤ R.locals
/-- what the heap holds now -/
def Dy (D : va_G) (dA : Nat → ClassId) (A : Nat → Prop) (ad : Nat → Nat) (m : Mm) (s : State) (H : Heap) (locs : List Loc) : Prop := va_P D vwCl (wof ad dA m) H ∧ va_D A (wof ad dA m) ∧ wfm m ∧ va_S A s.heap H locs
def QcM (D : va_G) (dA : Nat → ClassId) (A : Nat → Prop) (ad0 : Nat → Nat) (n0 : Nat) (o : Option Value ⊕ String) (m' : Mm) : Array Value → State → Outcome → State → Prop := fun _ st oc t =>
  ∃ (v : Option Value) (ad' : Nat → Nat), o = .inl v ∧ oc = .returned (v.map (shv ad')) ∧ (∀ k, k < n0 → ad' k = ad0 k) ∧ va_P D vwCl (wof ad' dA m') t.heap ∧ va_D A (wof ad' dA m') ∧ wfm m' ∧ (∀ x, v = some x → okv (mN m') x) ∧ va_F A st t
def XcM (D : va_G) (dA : Nat → ClassId) (A : Nat → Prop) (ad0 : Nat → Nat) (n0 : Nat) (o : Option Value ⊕ String) (m' : Mm) : String → State → State → Prop := fun E st t =>
  ∃ (ad' : Nat → Nat), o = .inr E ∧ (∀ k, k < n0 → ad' k = ad0 k) ∧ va_P D vwCl (wof ad' dA m') t.heap ∧ va_D A (wof ad' dA m') ∧ wfm m' ∧ va_F A st t
/-- from here the body ends with o, the memory being m' -/
def Wt (y : Mi) (pc : Nat) (L : List (Option Value)) (st : List Value) (m : Mm) (o : Option Value ⊕ String) (m' : Mm) : Prop :=
  mC m ≤ mC m' ∧ mZ m ≤ mZ m' ∧ mN m ≤ mN m' ∧
  ∀ (D : va_G) (dA : Nat → ClassId) (A : Nat → Prop) (ad ad0 : Nat → Nat) (n0 : Nat) (p : Program) (l : Launch) (e : Env) (R : Room) (s : State) (mid : MethodId) (args : Array Value) (below : List Frame) (meth : Method) (c : Code) (H : Heap) (locs : List Loc) (cells slots : Nat) (ls : Array Slot),
    Cx y D dA A p l R s mid args meth c → Dy D dA A ad m s H locs → (∀ k, k < n0 → ad k = ad0 k) → n0 ≤ mN m →
    hasL ad ls L → L.length = y.2.2.1 → okL (mN m) L → okS (mN m) st → cells + (mC m' - mC m) ≤ R.cells → slots + (mZ m' - mZ m) ≤ R.slots →
    W p l e R s mid args below meth c H locs cells slots (vx_MQ below (QcM D dA A ad0 n0 o m') (XcM D dA A ad0 n0 o m') args s R.cells R.slots A) (F0 mid pc ls (st.map (shv ad)))
/-- from here the body ends so that K holds -/
def V (y : Mi) (pc : Nat) (L : List (Option Value)) (st : List Value) (m : Mm) (K : Option Value ⊕ String → Mm → Prop) : Prop := ∃ o m', K o m' ∧ Wt y pc L st m o m'
theorem V.lift {y : Mi} {pc pc2 : Nat} {L L2 : List (Option Value)} {st st2 : List Value} {m m2 : Mm} {K : Option Value ⊕ String → Mm → Prop} (h : ∀ o m', Wt y pc2 L2 st2 m2 o m' → Wt y pc L st m o m') (k : V y pc2 L2 st2 m2 K) : V y pc L st m K := by
  obtain ⟨o, m', a, b⟩ := k
  exact ⟨o, m', a, h o m' b⟩
theorem V.mono {y : Mi} {pc : Nat} {L : List (Option Value)} {st : List Value} {m : Mm} {K K' : Option Value ⊕ String → Mm → Prop} (k : V y pc L st m K) (h : ∀ o m', K o m' → K' o m') : V y pc L st m K' := by
  obtain ⟨o, m', a, b⟩ := k
  exact ⟨o, m', h o m' a, b⟩
section Rules
variable {y : Mi} {pc : Nat} {L : List (Option Value)} {st : List Value} {m : Mm} {K : Option Value ⊕ String → Mm → Prop}
/-- a row that leaves memory and locals as they are -/
theorem Wt.sk {pc2 : Nat} {st2 : List Value} {o : Option Value ⊕ String} {m' : Mm} (k : Wt y pc2 L st2 m o m')
    (hs : ∀ n, okL n L → okS n st → okS n st2)
    (h : ∀ (p : Program) (l : Launch) (e : Env) (R : Room) (s : State) (mid : MethodId) (args : Array Value) (below : List Frame) (meth : Method) (c : Code) (H : Heap) (locs : List Loc) (cells slots : Nat) (ls : Array Slot) (Q : State → Prop) (ad : Nat → Nat), p.tables.exec = Jvm.exec → c.code = y.2.1 → s.vm.findClass y.1.cls = some mid.cls → (∀ w ∈ miW y, w.before args s = true) → hasL ad ls L →
      W p l e R s mid args below meth c H locs cells slots Q (F0 mid pc2 ls (st2.map (shv ad))) → W p l e R s mid args below meth c H locs cells slots Q (F0 mid pc ls (st.map (shv ad)))) : Wt y pc L st m o m' := by
  obtain ⟨h1, h2, h3, h4⟩ := k
  refine ⟨h1, h2, h3, ?_⟩
  intro D dA A ad ad0 n0 p l e R s mid args below meth c H locs cells slots ls C Y ha hn hl hL oL oS hc hz
  exact h p l e R s mid args below meth c H locs cells slots ls _ ad C.1 C.2.1 C.2.2.2.2.2.1 C.2.2.2.2.2.2.1 hl (h4 D dA A ad ad0 n0 p l e R s mid args below meth c H locs cells slots ls C Y ha hn hl hL oL (hs _ oL oS) hc hz)
theorem r_iconst {n : Int} (d : decode y.2.1 pc = .ok (.iconst n, 1)) {v : Int32} (hv : Int32.ofInt n = v) (k : V y (pc + 1) L (.int v :: st) m K) : V y pc L st m K :=
  V.lift (fun _ _ w => Wt.sk w (fun _ _ h => okS.ci h) (fun _ _ _ _ _ _ _ _ _ _ _ _ _ _ _ _ _ hx hb _ _ _ k => lv_iconst hx hb d hv k)) k
theorem r_bipush {n : Int} (d : decode y.2.1 pc = .ok (.bipush n, 2)) {v : Int32} (hv : (Int8.ofInt n).toInt32 = v) (k : V y (pc + 2) L (.int v :: st) m K) : V y pc L st m K :=
  V.lift (fun _ _ w => Wt.sk w (fun _ _ h => okS.ci h) (fun _ _ _ _ _ _ _ _ _ _ _ _ _ _ _ _ _ hx hb _ _ _ k => lv_bipush hx hb d hv k)) k
theorem r_sipush {n : Int} (d : decode y.2.1 pc = .ok (.sipush n, 3)) {v : Int32} (hv : (Int16.ofInt n).toInt32 = v) (k : V y (pc + 3) L (.int v :: st) m K) : V y pc L st m K :=
  V.lift (fun _ _ w => Wt.sk w (fun _ _ h => okS.ci h) (fun _ _ _ _ _ _ _ _ _ _ _ _ _ _ _ _ _ hx hb _ _ _ k => lv_sipush hx hb d hv k)) k
theorem r_ldc {i : Nat} {v : Int32} (d : decode y.2.1 pc = .ok (.ldc i, 2)) (hw : Cond.constant y.1.cls i v ∈ wsL_law) (k : V y (pc + 2) L (.int v :: st) m K) : V y pc L st m K :=
  V.lift (fun _ _ w => Wt.sk w (fun _ _ h => okS.ci h) (fun _ _ _ _ _ _ _ _ _ _ _ _ _ _ _ _ _ hx hb ho ht _ k => lv_ldc hx hb ho (ht _ (List.mem_cons_of_mem _ hw)) d k)) k
theorem r_ldcw {i : Nat} {v : Int32} (d : decode y.2.1 pc = .ok (.ldc_w i, 3)) (hw : Cond.constant y.1.cls i v ∈ wsL_law) (k : V y (pc + 3) L (.int v :: st) m K) : V y pc L st m K :=
  V.lift (fun _ _ w => Wt.sk w (fun _ _ h => okS.ci h) (fun _ _ _ _ _ _ _ _ _ _ _ _ _ _ _ _ _ hx hb ho ht _ k => lv_ldcw hx hb ho (ht _ (List.mem_cons_of_mem _ hw)) d k)) k
theorem r_null (d : decode y.2.1 pc = .ok (.aconst_null, 1)) (k : V y (pc + 1) L (.null :: st) m K) : V y pc L st m K :=
  V.lift (fun _ _ w => Wt.sk w (fun _ _ h => okS.cn h) (fun _ _ _ _ _ _ _ _ _ _ _ _ _ _ _ _ _ hx hb _ _ _ k => lv_null hx hb d k)) k
theorem r_iload_n {j : Fin 4} {i : Nat} {x : Int32} (d : decode y.2.1 pc = .ok (.iload_n j, 1)) (hi : (j : Nat) = i) (hl : L[i]? = some (some (.int x))) (k : V y (pc + 1) L (.int x :: st) m K) : V y pc L st m K :=
  V.lift (fun _ _ w => Wt.sk w (fun _ _ h => okS.ci h) (fun _ _ _ _ _ _ _ _ _ _ _ _ _ _ _ _ _ hx hb _ _ hh k => lv_iload_n hx hb d hi (hh.2.2 i _ hl) k)) k
theorem r_iload {i : Nat} {x : Int32} (d : decode y.2.1 pc = .ok (.iload i, 2)) (hl : L[i]? = some (some (.int x))) (k : V y (pc + 2) L (.int x :: st) m K) : V y pc L st m K :=
  V.lift (fun _ _ w => Wt.sk w (fun _ _ h => okS.ci h) (fun _ _ _ _ _ _ _ _ _ _ _ _ _ _ _ _ _ hx hb _ _ hh k => lv_iload hx hb d (hh.2.2 i _ hl) k)) k
theorem r_aload_n {j : Fin 4} {i : Nat} {x : Nat} (d : decode y.2.1 pc = .ok (.aload_n j, 1)) (hi : (j : Nat) = i) (hl : L[i]? = some (some (.ref x))) (k : V y (pc + 1) L (.ref x :: st) m K) : V y pc L st m K :=
  V.lift (fun _ _ w => Wt.sk w (fun _ o h => okS.c (o i _ hl) h) (fun _ _ _ _ _ _ _ _ _ _ _ _ _ _ _ _ _ hx hb _ _ hh k => lv_aload_n hx hb d hi (hh.2.2 i _ hl) k)) k
theorem r_aload {i : Nat} {x : Nat} (d : decode y.2.1 pc = .ok (.aload i, 2)) (hl : L[i]? = some (some (.ref x))) (k : V y (pc + 2) L (.ref x :: st) m K) : V y pc L st m K :=
  V.lift (fun _ _ w => Wt.sk w (fun _ o h => okS.c (o i _ hl) h) (fun _ _ _ _ _ _ _ _ _ _ _ _ _ _ _ _ _ hx hb _ _ hh k => lv_aload hx hb d (hh.2.2 i _ hl) k)) k
theorem r_aload_nN {j : Fin 4} {i : Nat} (d : decode y.2.1 pc = .ok (.aload_n j, 1)) (hi : (j : Nat) = i) (hl : L[i]? = some (some .null)) (k : V y (pc + 1) L (.null :: st) m K) : V y pc L st m K :=
  V.lift (fun _ _ w => Wt.sk w (fun _ o h => okS.c (o i _ hl) h) (fun _ _ _ _ _ _ _ _ _ _ _ _ _ _ _ _ _ hx hb _ _ hh k => lv_aload_nN hx hb d hi (hh.2.2 i _ hl) k)) k
theorem r_aloadN {i : Nat} (d : decode y.2.1 pc = .ok (.aload i, 2)) (hl : L[i]? = some (some .null)) (k : V y (pc + 2) L (.null :: st) m K) : V y pc L st m K :=
  V.lift (fun _ _ w => Wt.sk w (fun _ o h => okS.c (o i _ hl) h) (fun _ _ _ _ _ _ _ _ _ _ _ _ _ _ _ _ _ hx hb _ _ hh k => lv_aloadN hx hb d (hh.2.2 i _ hl) k)) k
theorem r_iadd {a b : Int32} (d : decode y.2.1 pc = .ok (.iadd, 1)) (k : V y (pc + 1) L (.int (a + b) :: st) m K) : V y pc L (.int b :: .int a :: st) m K :=
  V.lift (fun _ _ w => Wt.sk w (fun _ _ h => okS.ci h.t.t) (fun _ _ _ _ _ _ _ _ _ _ _ _ _ _ _ _ _ hx hb _ _ _ k => lv_iadd hx hb d k)) k
theorem r_isub {a b : Int32} (d : decode y.2.1 pc = .ok (.isub, 1)) (k : V y (pc + 1) L (.int (a - b) :: st) m K) : V y pc L (.int b :: .int a :: st) m K :=
  V.lift (fun _ _ w => Wt.sk w (fun _ _ h => okS.ci h.t.t) (fun _ _ _ _ _ _ _ _ _ _ _ _ _ _ _ _ _ hx hb _ _ _ k => lv_isub hx hb d k)) k
theorem r_imul {a b : Int32} (d : decode y.2.1 pc = .ok (.imul, 1)) (k : V y (pc + 1) L (.int (a * b) :: st) m K) : V y pc L (.int b :: .int a :: st) m K :=
  V.lift (fun _ _ w => Wt.sk w (fun _ _ h => okS.ci h.t.t) (fun _ _ _ _ _ _ _ _ _ _ _ _ _ _ _ _ _ hx hb _ _ _ k => lv_imul hx hb d k)) k
theorem r_iand {a b : Int32} (d : decode y.2.1 pc = .ok (.iand, 1)) (k : V y (pc + 1) L (.int (a &&& b) :: st) m K) : V y pc L (.int b :: .int a :: st) m K :=
  V.lift (fun _ _ w => Wt.sk w (fun _ _ h => okS.ci h.t.t) (fun _ _ _ _ _ _ _ _ _ _ _ _ _ _ _ _ _ hx hb _ _ _ k => lv_iand hx hb d k)) k
theorem r_ior {a b : Int32} (d : decode y.2.1 pc = .ok (.ior, 1)) (k : V y (pc + 1) L (.int (a ||| b) :: st) m K) : V y pc L (.int b :: .int a :: st) m K :=
  V.lift (fun _ _ w => Wt.sk w (fun _ _ h => okS.ci h.t.t) (fun _ _ _ _ _ _ _ _ _ _ _ _ _ _ _ _ _ hx hb _ _ _ k => lv_ior hx hb d k)) k
theorem r_idiv {a b : Int32} (d : decode y.2.1 pc = .ok (.idiv, 1)) (h0 : ¬ b = 0) (k : V y (pc + 1) L (.int (a / b) :: st) m K) : V y pc L (.int b :: .int a :: st) m K :=
  V.lift (fun _ _ w => Wt.sk w (fun _ _ h => okS.ci h.t.t) (fun _ _ _ _ _ _ _ _ _ _ _ _ _ _ _ _ _ hx hb _ _ _ k => lv_idiv hx hb d h0 k)) k
theorem r_irem {a b : Int32} (d : decode y.2.1 pc = .ok (.irem, 1)) (h0 : ¬ b = 0) (k : V y (pc + 1) L (.int (a - a / b * b) :: st) m K) : V y pc L (.int b :: .int a :: st) m K :=
  V.lift (fun _ _ w => Wt.sk w (fun _ _ h => okS.ci h.t.t) (fun _ _ _ _ _ _ _ _ _ _ _ _ _ _ _ _ _ hx hb _ _ _ k => lv_irem hx hb d h0 k)) k
theorem r_ishl {a b : Int32} (d : decode y.2.1 pc = .ok (.ishl, 1)) (k : V y (pc + 1) L (.int (a <<< (b &&& 31)) :: st) m K) : V y pc L (.int b :: .int a :: st) m K :=
  V.lift (fun _ _ w => Wt.sk w (fun _ _ h => okS.ci h.t.t) (fun _ _ _ _ _ _ _ _ _ _ _ _ _ _ _ _ _ hx hb _ _ _ k => lv_ishl hx hb d k)) k
theorem r_ishr {a b : Int32} (d : decode y.2.1 pc = .ok (.ishr, 1)) (k : V y (pc + 1) L (.int (a >>> (b &&& 31)) :: st) m K) : V y pc L (.int b :: .int a :: st) m K :=
  V.lift (fun _ _ w => Wt.sk w (fun _ _ h => okS.ci h.t.t) (fun _ _ _ _ _ _ _ _ _ _ _ _ _ _ _ _ _ hx hb _ _ _ k => lv_ishr hx hb d k)) k
theorem r_iushr {a b v : Int32} (d : decode y.2.1 pc = .ok (.iushr, 1)) (hv : (a.toUInt32 >>> (b.toUInt32 &&& Int32.toUInt32 31)).toInt32 = v) (k : V y (pc + 1) L (.int v :: st) m K) : V y pc L (.int b :: .int a :: st) m K :=
  V.lift (fun _ _ w => Wt.sk w (fun _ _ h => okS.ci h.t.t) (fun _ _ _ _ _ _ _ _ _ _ _ _ _ _ _ _ _ hx hb _ _ _ k => lv_iushr hx hb d hv k)) k
theorem r_goto {off : Int} {tgt : Nat} (d : decode y.2.1 pc = .ok (.goto off, 3)) (ht : (pc : Int) + off = (tgt : Int)) (k : V y tgt L st m K) : V y pc L st m K :=
  V.lift (fun _ _ w => Wt.sk w (fun _ _ h => h) (fun _ _ _ _ _ _ _ _ _ _ _ _ _ _ _ _ _ hx hb _ _ _ k => lv_goto hx hb d ht k)) k
theorem r_ifnull {x : Nat} {off : Int} (d : decode y.2.1 pc = .ok (.ifnull off, 3)) (k : V y (pc + 3) L st m K) : V y pc L (.ref x :: st) m K :=
  V.lift (fun _ _ w => Wt.sk w (fun _ _ h => h.t) (fun _ _ _ _ _ _ _ _ _ _ _ _ _ _ _ _ _ hx hb _ _ _ k => lv_ifnull hx hb d k)) k
theorem r_ifnullN {off : Int} {tgt : Nat} (d : decode y.2.1 pc = .ok (.ifnull off, 3)) (ht : (pc : Int) + off = (tgt : Int)) (k : V y tgt L st m K) : V y pc L (.null :: st) m K :=
  V.lift (fun _ _ w => Wt.sk w (fun _ _ h => h.t) (fun _ _ _ _ _ _ _ _ _ _ _ _ _ _ _ _ _ hx hb _ _ _ k => lv_ifnullN hx hb d ht k)) k
theorem r_ifnonnull {x : Nat} {off : Int} {tgt : Nat} (d : decode y.2.1 pc = .ok (.ifnonnull off, 3)) (ht : (pc : Int) + off = (tgt : Int)) (k : V y tgt L st m K) : V y pc L (.ref x :: st) m K :=
  V.lift (fun _ _ w => Wt.sk w (fun _ _ h => h.t) (fun _ _ _ _ _ _ _ _ _ _ _ _ _ _ _ _ _ hx hb _ _ _ k => lv_ifnonnull hx hb d ht k)) k
theorem r_ifnonnullN {off : Int} (d : decode y.2.1 pc = .ok (.ifnonnull off, 3)) (k : V y (pc + 3) L st m K) : V y pc L (.null :: st) m K :=
  V.lift (fun _ _ w => Wt.sk w (fun _ _ h => h.t) (fun _ _ _ _ _ _ _ _ _ _ _ _ _ _ _ _ _ hx hb _ _ _ k => lv_ifnonnullN hx hb d k)) k
theorem r_tableOut {dflt lo hi : Int} {offs : Array Int} {len : Nat} {x : Int32} {tgt : Nat} (d : decode y.2.1 pc = .ok (.tableswitch dflt lo hi offs, len)) (h : x.toInt < lo ∨ hi < x.toInt) (ht : (pc : Int) + dflt = (tgt : Int)) (k : V y tgt L st m K) : V y pc L (.int x :: st) m K :=
  V.lift (fun _ _ w => Wt.sk w (fun _ _ h => h.t) (fun _ _ _ _ _ _ _ _ _ _ _ _ _ _ _ _ _ hx hb _ _ _ k => lv_tableOut hx hb d h ht k)) k
theorem r_tableIn {dflt lo hi : Int} {offs : Array Int} {len : Nat} {x : Int32} {off : Int} {tgt : Nat} (d : decode y.2.1 pc = .ok (.tableswitch dflt lo hi offs, len)) (h1 : ¬ x.toInt < lo) (h2 : ¬ hi < x.toInt) (ho : offs[(x.toInt - lo).toNat]? = some off) (ht : (pc : Int) + off = (tgt : Int)) (k : V y tgt L st m K) : V y pc L (.int x :: st) m K :=
  V.lift (fun _ _ w => Wt.sk w (fun _ _ h => h.t) (fun _ _ _ _ _ _ _ _ _ _ _ _ _ _ _ _ _ hx hb _ _ _ k => lv_tableIn hx hb d h1 h2 ho ht k)) k
theorem r_dup_i {x : Int32} (d : decode y.2.1 pc = .ok (.dup, 1)) (k : V y (pc + 1) L (.int x :: .int x :: st) m K) : V y pc L (.int x :: st) m K :=
  V.lift (fun _ _ w => Wt.sk w (fun _ _ h => okS.ci h) (fun _ _ _ _ _ _ _ _ _ _ _ _ _ _ _ _ _ hx hb _ _ _ k => lv_dup hx hb d rfl k)) k
theorem r_dup_r {x : Nat} (d : decode y.2.1 pc = .ok (.dup, 1)) (k : V y (pc + 1) L (.ref x :: .ref x :: st) m K) : V y pc L (.ref x :: st) m K :=
  V.lift (fun _ _ w => Wt.sk w (fun _ _ h => okS.c h.h h) (fun _ _ _ _ _ _ _ _ _ _ _ _ _ _ _ _ _ hx hb _ _ _ k => lv_dup hx hb d rfl k)) k
theorem r_dup2 {x : Int32} {a : Nat} (d : decode y.2.1 pc = .ok (.dup2, 1)) (k : V y (pc + 1) L (.int x :: .ref a :: .int x :: .ref a :: st) m K) : V y pc L (.int x :: .ref a :: st) m K :=
  V.lift (fun _ _ w => Wt.sk w (fun _ _ h => okS.ci (okS.c h.t.h h)) (fun _ _ _ _ _ _ _ _ _ _ _ _ _ _ _ _ _ hx hb _ _ _ k => lv_dup2_11 hx hb d rfl rfl k)) k
theorem r_if_eq {x : Int32} {off : Int} {tgt : Nat} (d : decode y.2.1 pc = .ok (.ifCond .eq off, 3)) (ht : (pc : Int) + off = (tgt : Int)) (kt : x = 0 → V y tgt L st m K) (kf : ¬ x = 0 → V y (pc + 3) L st m K) : V y pc L (.int x :: st) m K := by
  by_cases q : x = 0
  · exact V.lift (fun _ _ w => Wt.sk w (fun _ _ h => h.t) (fun _ _ _ _ _ _ _ _ _ _ _ _ _ _ _ _ _ hx hb _ _ _ k => lv_if_eq hx hb d ht (fun _ => k) (fun h => absurd q h))) (kt q)
  · exact V.lift (fun _ _ w => Wt.sk w (fun _ _ h => h.t) (fun _ _ _ _ _ _ _ _ _ _ _ _ _ _ _ _ _ hx hb _ _ _ k => lv_if_eq hx hb d ht (fun h => absurd h q) (fun _ => k))) (kf q)
theorem r_icmp_eq {x z : Int32} {off : Int} {tgt : Nat} (d : decode y.2.1 pc = .ok (.if_icmp .eq off, 3)) (ht : (pc : Int) + off = (tgt : Int)) (kt : x = z → V y tgt L st m K) (kf : ¬ x = z → V y (pc + 3) L st m K) : V y pc L (.int z :: .int x :: st) m K := by
  by_cases q : x = z
  · exact V.lift (fun _ _ w => Wt.sk w (fun _ _ h => h.t.t) (fun _ _ _ _ _ _ _ _ _ _ _ _ _ _ _ _ _ hx hb _ _ _ k => lv_icmp_eq hx hb d ht (fun _ => k) (fun h => absurd q h))) (kt q)
  · exact V.lift (fun _ _ w => Wt.sk w (fun _ _ h => h.t.t) (fun _ _ _ _ _ _ _ _ _ _ _ _ _ _ _ _ _ hx hb _ _ _ k => lv_icmp_eq hx hb d ht (fun h => absurd h q) (fun _ => k))) (kf q)
theorem r_if_ne {x : Int32} {off : Int} {tgt : Nat} (d : decode y.2.1 pc = .ok (.ifCond .ne off, 3)) (ht : (pc : Int) + off = (tgt : Int)) (kt : ¬ x = 0 → V y tgt L st m K) (kf : x = 0 → V y (pc + 3) L st m K) : V y pc L (.int x :: st) m K := by
  by_cases q : x = 0
  · exact V.lift (fun _ _ w => Wt.sk w (fun _ _ h => h.t) (fun _ _ _ _ _ _ _ _ _ _ _ _ _ _ _ _ _ hx hb _ _ _ k => lv_if_ne hx hb d ht (fun h => absurd q h) (fun _ => k))) (kf q)
  · exact V.lift (fun _ _ w => Wt.sk w (fun _ _ h => h.t) (fun _ _ _ _ _ _ _ _ _ _ _ _ _ _ _ _ _ hx hb _ _ _ k => lv_if_ne hx hb d ht (fun _ => k) (fun h => absurd h q))) (kt q)
theorem r_icmp_ne {x z : Int32} {off : Int} {tgt : Nat} (d : decode y.2.1 pc = .ok (.if_icmp .ne off, 3)) (ht : (pc : Int) + off = (tgt : Int)) (kt : ¬ x = z → V y tgt L st m K) (kf : x = z → V y (pc + 3) L st m K) : V y pc L (.int z :: .int x :: st) m K := by
  by_cases q : x = z
  · exact V.lift (fun _ _ w => Wt.sk w (fun _ _ h => h.t.t) (fun _ _ _ _ _ _ _ _ _ _ _ _ _ _ _ _ _ hx hb _ _ _ k => lv_icmp_ne hx hb d ht (fun h => absurd q h) (fun _ => k))) (kf q)
  · exact V.lift (fun _ _ w => Wt.sk w (fun _ _ h => h.t.t) (fun _ _ _ _ _ _ _ _ _ _ _ _ _ _ _ _ _ hx hb _ _ _ k => lv_icmp_ne hx hb d ht (fun _ => k) (fun h => absurd h q))) (kt q)
theorem r_if_lt {x : Int32} {off : Int} {tgt : Nat} (d : decode y.2.1 pc = .ok (.ifCond .lt off, 3)) (ht : (pc : Int) + off = (tgt : Int)) (kt : x < 0 → V y tgt L st m K) (kf : ¬ x < 0 → V y (pc + 3) L st m K) : V y pc L (.int x :: st) m K := by
  by_cases q : x < 0
  · exact V.lift (fun _ _ w => Wt.sk w (fun _ _ h => h.t) (fun _ _ _ _ _ _ _ _ _ _ _ _ _ _ _ _ _ hx hb _ _ _ k => lv_if_lt hx hb d ht (fun _ => k) (fun h => absurd q h))) (kt q)
  · exact V.lift (fun _ _ w => Wt.sk w (fun _ _ h => h.t) (fun _ _ _ _ _ _ _ _ _ _ _ _ _ _ _ _ _ hx hb _ _ _ k => lv_if_lt hx hb d ht (fun h => absurd h q) (fun _ => k))) (kf q)
theorem r_icmp_lt {x z : Int32} {off : Int} {tgt : Nat} (d : decode y.2.1 pc = .ok (.if_icmp .lt off, 3)) (ht : (pc : Int) + off = (tgt : Int)) (kt : x < z → V y tgt L st m K) (kf : ¬ x < z → V y (pc + 3) L st m K) : V y pc L (.int z :: .int x :: st) m K := by
  by_cases q : x < z
  · exact V.lift (fun _ _ w => Wt.sk w (fun _ _ h => h.t.t) (fun _ _ _ _ _ _ _ _ _ _ _ _ _ _ _ _ _ hx hb _ _ _ k => lv_icmp_lt hx hb d ht (fun _ => k) (fun h => absurd q h))) (kt q)
  · exact V.lift (fun _ _ w => Wt.sk w (fun _ _ h => h.t.t) (fun _ _ _ _ _ _ _ _ _ _ _ _ _ _ _ _ _ hx hb _ _ _ k => lv_icmp_lt hx hb d ht (fun h => absurd h q) (fun _ => k))) (kf q)
theorem r_if_ge {x : Int32} {off : Int} {tgt : Nat} (d : decode y.2.1 pc = .ok (.ifCond .ge off, 3)) (ht : (pc : Int) + off = (tgt : Int)) (kt : 0 ≤ x → V y tgt L st m K) (kf : ¬ 0 ≤ x → V y (pc + 3) L st m K) : V y pc L (.int x :: st) m K := by
  by_cases q : 0 ≤ x
  · exact V.lift (fun _ _ w => Wt.sk w (fun _ _ h => h.t) (fun _ _ _ _ _ _ _ _ _ _ _ _ _ _ _ _ _ hx hb _ _ _ k => lv_if_ge hx hb d ht (fun _ => k) (fun h => absurd q h))) (kt q)
  · exact V.lift (fun _ _ w => Wt.sk w (fun _ _ h => h.t) (fun _ _ _ _ _ _ _ _ _ _ _ _ _ _ _ _ _ hx hb _ _ _ k => lv_if_ge hx hb d ht (fun h => absurd h q) (fun _ => k))) (kf q)
theorem r_icmp_ge {x z : Int32} {off : Int} {tgt : Nat} (d : decode y.2.1 pc = .ok (.if_icmp .ge off, 3)) (ht : (pc : Int) + off = (tgt : Int)) (kt : z ≤ x → V y tgt L st m K) (kf : ¬ z ≤ x → V y (pc + 3) L st m K) : V y pc L (.int z :: .int x :: st) m K := by
  by_cases q : z ≤ x
  · exact V.lift (fun _ _ w => Wt.sk w (fun _ _ h => h.t.t) (fun _ _ _ _ _ _ _ _ _ _ _ _ _ _ _ _ _ hx hb _ _ _ k => lv_icmp_ge hx hb d ht (fun _ => k) (fun h => absurd q h))) (kt q)
  · exact V.lift (fun _ _ w => Wt.sk w (fun _ _ h => h.t.t) (fun _ _ _ _ _ _ _ _ _ _ _ _ _ _ _ _ _ hx hb _ _ _ k => lv_icmp_ge hx hb d ht (fun h => absurd h q) (fun _ => k))) (kf q)
theorem r_if_gt {x : Int32} {off : Int} {tgt : Nat} (d : decode y.2.1 pc = .ok (.ifCond .gt off, 3)) (ht : (pc : Int) + off = (tgt : Int)) (kt : 0 < x → V y tgt L st m K) (kf : ¬ 0 < x → V y (pc + 3) L st m K) : V y pc L (.int x :: st) m K := by
  by_cases q : 0 < x
  · exact V.lift (fun _ _ w => Wt.sk w (fun _ _ h => h.t) (fun _ _ _ _ _ _ _ _ _ _ _ _ _ _ _ _ _ hx hb _ _ _ k => lv_if_gt hx hb d ht (fun _ => k) (fun h => absurd q h))) (kt q)
  · exact V.lift (fun _ _ w => Wt.sk w (fun _ _ h => h.t) (fun _ _ _ _ _ _ _ _ _ _ _ _ _ _ _ _ _ hx hb _ _ _ k => lv_if_gt hx hb d ht (fun h => absurd h q) (fun _ => k))) (kf q)
theorem r_icmp_gt {x z : Int32} {off : Int} {tgt : Nat} (d : decode y.2.1 pc = .ok (.if_icmp .gt off, 3)) (ht : (pc : Int) + off = (tgt : Int)) (kt : z < x → V y tgt L st m K) (kf : ¬ z < x → V y (pc + 3) L st m K) : V y pc L (.int z :: .int x :: st) m K := by
  by_cases q : z < x
  · exact V.lift (fun _ _ w => Wt.sk w (fun _ _ h => h.t.t) (fun _ _ _ _ _ _ _ _ _ _ _ _ _ _ _ _ _ hx hb _ _ _ k => lv_icmp_gt hx hb d ht (fun _ => k) (fun h => absurd q h))) (kt q)
  · exact V.lift (fun _ _ w => Wt.sk w (fun _ _ h => h.t.t) (fun _ _ _ _ _ _ _ _ _ _ _ _ _ _ _ _ _ hx hb _ _ _ k => lv_icmp_gt hx hb d ht (fun h => absurd h q) (fun _ => k))) (kf q)
theorem r_if_le {x : Int32} {off : Int} {tgt : Nat} (d : decode y.2.1 pc = .ok (.ifCond .le off, 3)) (ht : (pc : Int) + off = (tgt : Int)) (kt : x ≤ 0 → V y tgt L st m K) (kf : ¬ x ≤ 0 → V y (pc + 3) L st m K) : V y pc L (.int x :: st) m K := by
  by_cases q : x ≤ 0
  · exact V.lift (fun _ _ w => Wt.sk w (fun _ _ h => h.t) (fun _ _ _ _ _ _ _ _ _ _ _ _ _ _ _ _ _ hx hb _ _ _ k => lv_if_le hx hb d ht (fun _ => k) (fun h => absurd q h))) (kt q)
  · exact V.lift (fun _ _ w => Wt.sk w (fun _ _ h => h.t) (fun _ _ _ _ _ _ _ _ _ _ _ _ _ _ _ _ _ hx hb _ _ _ k => lv_if_le hx hb d ht (fun h => absurd h q) (fun _ => k))) (kf q)
theorem r_icmp_le {x z : Int32} {off : Int} {tgt : Nat} (d : decode y.2.1 pc = .ok (.if_icmp .le off, 3)) (ht : (pc : Int) + off = (tgt : Int)) (kt : x ≤ z → V y tgt L st m K) (kf : ¬ x ≤ z → V y (pc + 3) L st m K) : V y pc L (.int z :: .int x :: st) m K := by
  by_cases q : x ≤ z
  · exact V.lift (fun _ _ w => Wt.sk w (fun _ _ h => h.t.t) (fun _ _ _ _ _ _ _ _ _ _ _ _ _ _ _ _ _ hx hb _ _ _ k => lv_icmp_le hx hb d ht (fun _ => k) (fun h => absurd q h))) (kt q)
  · exact V.lift (fun _ _ w => Wt.sk w (fun _ _ h => h.t.t) (fun _ _ _ _ _ _ _ _ _ _ _ _ _ _ _ _ _ hx hb _ _ _ k => lv_icmp_le hx hb d ht (fun h => absurd h q) (fun _ => k))) (kf q)
/-- a row that changes locals alone -/
theorem Wt.lo {pc2 i : Nat} {v : Value} {st2 : List Value} {o : Option Value ⊕ String} {m' : Mm} (k : Wt y pc2 (L.set i (some v)) st2 m o m') (hi : i < L.length)
    (hv : ∀ n, okL n L → okS n st → okv n v) (hs : ∀ n, okS n st → okS n st2)
    (h : ∀ (p : Program) (l : Launch) (e : Env) (R : Room) (s : State) (mid : MethodId) (args : Array Value) (below : List Frame) (meth : Method) (c : Code) (H : Heap) (locs : List Loc) (cells slots : Nat) (ls : Array Slot) (Q : State → Prop) (ad : Nat → Nat), p.tables.exec = Jvm.exec → c.code = y.2.1 → hasL ad ls L →
      (∀ ls', lv_has ls' L.length ((i, shv ad v) :: (lvo ad L).filter (fun q => !(q.1 == i) && !(q.1 + 1 == i && q.2.category == 2))) → W p l e R s mid args below meth c H locs cells slots Q (F0 mid pc2 ls' (st2.map (shv ad)))) → W p l e R s mid args below meth c H locs cells slots Q (F0 mid pc ls (st.map (shv ad)))) : Wt y pc L st m o m' := by
  obtain ⟨h1, h2, h3, h4⟩ := k
  refine ⟨h1, h2, h3, ?_⟩
  intro D dA A ad ad0 n0 p l e R s mid args below meth c H locs cells slots ls C Y ha hn hl hL oL oS hc hz
  exact h p l e R s mid args below meth c H locs cells slots ls _ ad C.1 C.2.1 hl (fun ls' hl' => h4 D dA A ad ad0 n0 p l e R s mid args below meth c H locs cells slots ls' C Y ha hn (hasL.store hi oL hl') (by rw [List.length_set]; exact hL) (oL.set (hv _ oL oS)) (hs _ oS) hc hz)
theorem r_istore_n {j : Fin 4} {i : Nat} {x : Int32} (d : decode y.2.1 pc = .ok (.istore_n j, 1)) (hj : (j : Nat) = i) (hi : i < L.length) {L' : List (Option Value)} (hL : L.set i (some (.int x)) = L') (k : V y (pc + 1) L' st m K) : V y pc L (.int x :: st) m K := by
  subst hL
  exact V.lift (fun _ _ w => Wt.lo w hi (fun _ _ _ => okvi) (fun _ h => h.t) (fun _ _ _ _ _ _ _ _ _ _ _ _ _ _ _ _ _ hx hb hh k => lv_istore_n hx hb d hj hh.lv hi rfl k)) k
theorem r_istore {i : Nat} {x : Int32} (d : decode y.2.1 pc = .ok (.istore i, 2)) (hi : i < L.length) {L' : List (Option Value)} (hL : L.set i (some (.int x)) = L') (k : V y (pc + 2) L' st m K) : V y pc L (.int x :: st) m K := by
  subst hL
  exact V.lift (fun _ _ w => Wt.lo w hi (fun _ _ _ => okvi) (fun _ h => h.t) (fun _ _ _ _ _ _ _ _ _ _ _ _ _ _ _ _ _ hx hb hh k => lv_istore hx hb d hh.lv hi rfl k)) k
theorem r_astore_n {j : Fin 4} {i x : Nat} (d : decode y.2.1 pc = .ok (.astore_n j, 1)) (hj : (j : Nat) = i) (hi : i < L.length) {L' : List (Option Value)} (hL : L.set i (some (.ref x)) = L') (k : V y (pc + 1) L' st m K) : V y pc L (.ref x :: st) m K := by
  subst hL
  exact V.lift (fun _ _ w => Wt.lo w hi (fun _ _ h => h.h) (fun _ h => h.t) (fun _ _ _ _ _ _ _ _ _ _ _ _ _ _ _ _ _ hx hb hh k => lv_astore_n hx hb d hj hh.lv hi rfl k)) k
theorem r_astore {i x : Nat} (d : decode y.2.1 pc = .ok (.astore i, 2)) (hi : i < L.length) {L' : List (Option Value)} (hL : L.set i (some (.ref x)) = L') (k : V y (pc + 2) L' st m K) : V y pc L (.ref x :: st) m K := by
  subst hL
  exact V.lift (fun _ _ w => Wt.lo w hi (fun _ _ h => h.h) (fun _ h => h.t) (fun _ _ _ _ _ _ _ _ _ _ _ _ _ _ _ _ _ hx hb hh k => lv_astore hx hb d hh.lv hi rfl k)) k
theorem r_astore_nN {j : Fin 4} {i : Nat} (d : decode y.2.1 pc = .ok (.astore_n j, 1)) (hj : (j : Nat) = i) (hi : i < L.length) {L' : List (Option Value)} (hL : L.set i (some .null) = L') (k : V y (pc + 1) L' st m K) : V y pc L (.null :: st) m K := by
  subst hL
  exact V.lift (fun _ _ w => Wt.lo w hi (fun _ _ h => h.h) (fun _ h => h.t) (fun _ _ _ _ _ _ _ _ _ _ _ _ _ _ _ _ _ hx hb hh k => lv_astore_nN hx hb d hj hh.lv hi rfl k)) k
theorem r_astoreN {i : Nat} (d : decode y.2.1 pc = .ok (.astore i, 2)) (hi : i < L.length) {L' : List (Option Value)} (hL : L.set i (some .null) = L') (k : V y (pc + 2) L' st m K) : V y pc L (.null :: st) m K := by
  subst hL
  exact V.lift (fun _ _ w => Wt.lo w hi (fun _ _ h => h.h) (fun _ h => h.t) (fun _ _ _ _ _ _ _ _ _ _ _ _ _ _ _ _ _ hx hb hh k => lv_astoreN hx hb d hh.lv hi rfl k)) k
theorem r_iinc {i : Nat} {n : Int} {x v : Int32} (d : decode y.2.1 pc = .ok (.iinc i n, 3)) (hx0 : L[i]? = some (some (.int x))) (hv : x + Int32.ofInt n = v) {L' : List (Option Value)} (hL : L.set i (some (.int v)) = L') (k : V y (pc + 3) L' st m K) : V y pc L st m K := by
  subst hL
  have hi : i < L.length := (List.getElem?_eq_some_iff.mp hx0).1
  refine V.lift (fun _ _ w => Wt.lo w hi (fun _ _ _ => okvi) (fun _ h => h) (fun _ _ _ _ _ _ _ _ _ _ _ _ _ _ _ _ ad hx hb hh k => ?_)) k
  obtain ⟨z, hz⟩ := List.getElem?_of_mem (lvo_mem (ad := ad) hx0)
  exact lv_iinc hx hb d hh.lv hz hv hi rfl k
end Rules
