/-! CONTRACTS AND CALLS -/
def rmM (y : Mi) (m m' : Mm) : Room := { frames := y.2.2.2.2.1, cells := mC m' - mC m, slots := mZ m' - mZ m, locals := y.2.2.2.2.2 }
/-- a method's start -/
def PcM (D : va_G) (dA : Nat → ClassId) (ad : Nat → Nat) (m : Mm) (args : List Value) (sz : Nat) : Array Value → State → Prop := fun v U =>
  v = (args.map (shv ad)).toArray ∧ U.heap.size = sz ∧ va_P D vwCl (wof ad dA m) U.heap ∧ va_K D vwCl (tyl dA) U ∧ va_D (fun _ => True) (wof ad dA m) ∧ wfm m ∧ Nst U ∧ Str U ∧ Thr (va_A (wof ad dA m) sz) U U.heap ∧ okS (mN m) args
/-- the method, called with args over m, ends with o, the memory being m' -/
def Ct (y : Mi) (args : List Value) (m : Mm) (o : Option Value ⊕ String) (m' : Mm) : Prop :=
  mC m ≤ mC m' ∧ mZ m ≤ mZ m' ∧ mN m ≤ mN m' ∧
  ∀ (l : Launch) (D : va_G) (dA : Nat → ClassId) (ad : Nat → Nat) (sz : Nat), l.stackTraces = false →
    vx_Met l y.1 (miW y) (rmM y m m') (PcM D dA ad m args sz) (QcM D dA (va_A (wof ad dA m) sz) ad (mN m) o m') (XcM D dA (va_A (wof ad dA m) sz) ad (mN m) o m') (mC m' - mC m) (mZ m' - mZ m) (va_A (wof ad dA m) sz)
/-- called with args over m, it ends so that K holds -/
def C (y : Mi) (args : List Value) (m : Mm) (K : Option Value ⊕ String → Mm → Prop) : Prop := ∃ o m', K o m' ∧ Ct y args m o m'
theorem C.mono {y : Mi} {args : List Value} {m : Mm} {K K' : Option Value ⊕ String → Mm → Prop} (k : C y args m K) (h : ∀ o m', K o m' → K' o m') : C y args m K' := by
  obtain ⟨o, m', a, b⟩ := k
  exact ⟨o, m', h o m' a, b⟩
theorem args_sl {n : Nat} {args : List Value} (ho : okS n args) (ad : Nat → Nat) : (lg_sl (args.map (shv ad))).length = args.length := by
  induction args with
  | nil => rfl
  | cons v vs ih =>
    have hc : (shv ad v).category = 1 := okv_cat ho.h ad
    have h1 := ih ho.t
    unfold lg_sl at h1 ⊢
    rw [List.map_cons, List.flatMap_cons, if_neg (by rw [hc]; decide), List.length_append, h1]
    simp only [List.length_nil, List.length_cons]
    omega
theorem args_in {n : Nat} {args : List Value} (ho : okS n args) (ad : Nat → Nat) : ∀ (b i : Nat) (v : Value), args[i]? = some v → (b + i, shv ad v) ∈ lv_args b (args.map (shv ad)) := by
  induction args with
  | nil => intro b i v h; cases h
  | cons w vs ih =>
    intro b i v h
    have hc : (shv ad w).category = 1 := okv_cat ho.h ad
    rw [List.map_cons]
    unfold lv_args
    rw [if_neg (by rw [hc]; decide)]
    cases i with
    | zero =>
      cases h
      exact List.mem_cons_self
    | succ i =>
      have h1 := ih ho.t (b + 1) i v h
      rw [show b + 1 + i = b + (i + 1) by omega] at h1
      exact List.mem_cons_of_mem _ h1
/-- the locals at a method's start -/
def entL (n : Nat) (args : List Value) : List (Option Value) := args.map some ++ List.replicate (n - args.length) none
theorem entL_at {n i : Nat} {args : List Value} {v : Value} (h : (entL n args)[i]? = some (some v)) : args[i]? = some v := by
  unfold entL at h
  by_cases hi : i < args.length
  · rw [List.getElem?_append_left (by rw [List.length_map]; exact hi), List.getElem?_map] at h
    cases h1 : args[i]? with
    | none => rw [h1] at h; cases h
    | some w => rw [h1] at h; cases h; rfl
  · rw [List.getElem?_append_right (by rw [List.length_map]; omega), List.getElem?_replicate] at h
    split at h
    · cases h
    · cases h
theorem entL_len {n : Nat} {args : List Value} (h : args.length ≤ n) : (entL n args).length = n := by
  simp [entL]
  omega
theorem hasL.entry {n k : Nat} {args : List Value} (ho : okS k args) (h : args.length ≤ n) (ad : Nat → Nat) : hasL ad ((lg_sl (args.map (shv ad)) ++ List.replicate (n - (lg_sl (args.map (shv ad))).length) Slot.unset).toArray) (entL n args) := by
  have hv := lv_entry (args.map (shv ad)) (n := n) (by rw [args_sl ho]; exact h)
  refine ⟨by rw [hv.1, entL_len h], hv.2.1, fun i v q => ?_⟩
  have h1 := args_in ho ad 0 i v (entL_at q)
  rw [Nat.zero_add] at h1
  exact hv.2.2 _ h1
/-- a body makes a contract -/
theorem Ct.of {y : Mi} {args : List Value} {m : Mm} {o : Option Value ⊕ String} {m' : Mm} (hy : plainName y.1.cls = true) (hl : args.length ≤ y.2.2.1) (w : Wt y 0 (entL y.2.2.1 args) [] m o m') : Ct y args m o m' := by
  obtain ⟨h1, h2, h3, h4⟩ := w
  refine ⟨h1, h2, h3, ?_⟩
  intro l D dA ad sz hst
  refine vx_ofW (cc := y.2.1) (maxL := y.2.2.1) (ret := y.2.2.2.1) (ws' := wsL_law) hy rfl ?_
  intro p e s mid av below meth c s₁ B hml htab hP
  obtain ⟨rfl, hsz, hP0, hK, hD0, hw, hN, hS, hT, hok⟩ := hP
  have hts := atoms_spec (ws := miW y) B.pre
  have hin : meth.name = y.1.name := (name_of_methodNamed B.named B.method).1
  rw [lg_entry_eq]
  have hD : va_D (va_A (wof ad dA m) sz) (wof ad dA m) := hD0.self
  have C0 : Cx y D dA (va_A (wof ad dA m) sz) p l (headSpec (miW y) (rmM y m m')).room s mid ((args.map (shv ad)).toArray) meth c :=
    ⟨B.exec, B.bytes, hml, B.returns, B.notSynchronized, findClass_of_methodNamed B.named, hts, hst, htab, hin, hK, hN, hS, hT, fun q hq => Or.inr (by rw [← hsz]; exact hq), Nat.le_refl _, Nat.le_refl _⟩
  exact h4 D dA (va_A (wof ad dA m) sz) ad ad (mN m) p l e _ s mid _ below meth c s.heap [] 0 0 _ C0 ⟨hP0, hD, hw, va_S.rf⟩ (fun _ _ => rfl) (Nat.le_refl _) (hasL.entry hok hl ad) (entL_len hl)
    (fun i v q => hok v (List.mem_of_getElem? (entL_at q))) (fun _ q => absurd q List.not_mem_nil) (by rw [Nat.zero_add]; exact Nat.le_refl _) (by rw [Nat.zero_add]; exact Nat.le_refl _)
theorem C.of {y : Mi} {args : List Value} {m : Mm} {K : Option Value ⊕ String → Mm → Prop} (hy : plainName y.1.cls = true) (hl : args.length ≤ y.2.2.1) {L : List (Option Value)} (hL : entL y.2.2.1 args = L) (w : V y 0 L [] m K) : C y args m K := by
  subst hL
  obtain ⟨o, m', a, b⟩ := w
  exact ⟨o, m', a, Ct.of hy hl b⟩
/-- a contract that returns, without what it throws -/
theorem Ct.met {y : Mi} {args : List Value} {m : Mm} {v : Option Value} {m' : Mm} (h : Ct y args m (.inl v) m') {l : Launch} (hst : l.stackTraces = false) (D : va_G) (dA : Nat → ClassId) (ad : Nat → Nat) (sz : Nat) :
    Met l y.1 (miW y) (rmM y m m') (PcM D dA ad m args sz) (QcM D dA (va_A (wof ad dA m) sz) ad (mN m) (.inl v) m') (mC m' - mC m) (mZ m' - mZ m) (va_A (wof ad dA m) sz) :=
  Free.MetFree.mono (h.2.2.2 l D dA ad sz hst) (fun _ _ q => q) (fun _ _ _ _ _ q => q) (fun a st oc t _ q => by
    rcases q with q | ⟨_, _, E, ce, Lx, hx, -⟩
    · exact q
    · obtain ⟨_, hx, -⟩ := hx
      cases hx)
theorem PcM.blind {D : va_G} {dA : Nat → ClassId} {ad : Nat → Nat} {m : Mm} {args : List Value} {sz : Nat} : FrameBlind (PcM D dA ad m args sz) := fun a U g mk q => by
  obtain ⟨q1, q2, q3, q4, q5, q6, q7, q8, q9, q10⟩ := q
  exact ⟨q1, q2, q3, va_K.moved (u := U) (U := U.calling g mk a) (Vm.Alike.refl U.vm) q4, q5, q6, Nst.same (u := U) (U := U.calling g mk a) rfl q7, Str.same (u := U) (U := U.calling g mk a) rfl q8, Thr.go (s := U) (U := U.calling g mk a) q9 (Vm.Alike.refl U.vm) (fun _ _ _ => rfl) (fun _ q => q), q10⟩
section Calls5
variable {y y2 : Mi} {pc : Nat} {L : List (Option Value)} {st : List Value} {m : Mm} {K : Option Value ⊕ String → Mm → Prop}
theorem Dy.free {D : va_G} {dA : Nat → ClassId} {A : Nat → Prop} {ad : Nat → Nat} {s : State} {H : Heap} {locs : List Loc} (Y : Dy D dA A ad m s H locs) (hg : ∀ q, s.heap.size ≤ q → A q) : ∀ q, va_A (wof ad dA m) H.size q → A q := by
  intro q h
  rcases h with ⟨k, e, h⟩ | h
  · exact Y.2.1.2 k (q, e) h
  · exact hg q (Nat.le_trans Y.2.2.2.1 h)
theorem PcM.at {D : va_G} {dA : Nat → ClassId} {A : Nat → Prop} {p : Program} {l : Launch} {R : Room} {s : State} {mid : MethodId} {args : Array Value} {meth : Method} {c : Code} {ad : Nat → Nat} {H : Heap} {locs : List Loc} {As : List Value}
    (X : Cx y D dA A p l R s mid args meth c) (Y : Dy D dA A ad m s H locs) (ho : okS (mN m) As) : ∀ U : State, U.heap = H → s.WarmedH U.vm → PcM D dA ad m As H.size (As.map (shv ad)).toArray U := by
  intro U hU hW
  obtain ⟨-, -, -, -, -, -, -, -, -, -, hK, hN, hS, hT, hg, -, -⟩ := X
  have hf := Y.free hg
  obtain ⟨hP, hD, hw, hS0⟩ := Y
  exact ⟨rfl, by rw [hU], by rw [hU]; exact hP, va_K.moved hW.alike hK, hD.weaken (fun _ _ _ _ => trivial), hw, hN.warm hW, hS.warm hW, by rw [hU]; exact hT.go hW.alike hS0.2.1 hf, ho⟩
/-- behind a call that returned -/
theorem va_Run.on {D : va_G} {dA : Nat → ClassId} {A : Nat → Prop} {p : Program} {l : Launch} {e : Env} {R : Room} {s : State} {mid : MethodId} {args : Array Value} {below : List Frame} {meth : Method} {c : Code} {ad ad0 : Nat → Nat} {n0 : Nat} {H : Heap} {locs : List Loc} {cells slots : Nat} {ls : Array Slot} {st0 : List Value} {a : Array Value} {v : Option Value} {m1 m' : Mm} {o : Option Value ⊕ String}
    (X : Cx y D dA A p l R s mid args meth c) (Y : Dy D dA A ad m s H locs) (ha : ∀ k, k < n0 → ad k = ad0 k) (hn : n0 ≤ mN m) (hl : hasL ad ls L) (hL : L.length = y.2.2.1) (oL : okL (mN m) L) (oS : okS (mN m) st)
    (h1 : mC m ≤ mC m1) (h2 : mZ m ≤ mZ m1) (h3 : mN m ≤ mN m1) (w : Wt y (pc + 3) L (v.toList ++ st) m1 o m') (hc : cells + (mC m' - mC m) ≤ R.cells) (hz : slots + (mZ m' - mZ m) ≤ R.slots)
    (hr : va_Run p l e R s mid args below meth c H locs cells slots (mC m1 - mC m) (mZ m1 - mZ m) (F0 mid pc ls st0) (st.map (shv ad)) (QcM D dA (va_A (wof ad dA m) H.size) ad (mN m) (.inl v) m1 a) (va_A (wof ad dA m) H.size)) :
    W p l e R s mid args below meth c H locs cells slots (vx_MQ below (QcM D dA A ad0 n0 o m') (XcM D dA A ad0 n0 o m') args s R.cells R.slots A) (F0 mid pc ls st0) := by
  intro T hT XS
  obtain ⟨v', st₀, t, T', L1, h0, X', hL1, e1, e2, ⟨v2, ad', e3, e4, e5, e6, e7, e8, e9, hF⟩, stp⟩ := hr T hT XS
  cases e3
  cases e4
  have hf := Y.free X.grow
  obtain ⟨hz1, hk1⟩ := hF
  rw [h0] at hz1 hk1
  have Y1 : Dy D dA A ad' m1 s T'.heap (locs ++ L1) := by
    refine ⟨by rw [e1]; exact e6, e7.weaken (fun _ _ _ q => hf _ q), e8, ⟨Nat.le_trans Y.2.2.2.1 (by rw [e1]; exact hz1), fun q q1 q2 => ?_, fun q hq => ?_⟩⟩
    · rw [e1, hk1 q (Nat.lt_of_lt_of_le q1 Y.2.2.2.1) (fun z => q2 (hf q z))]
      exact Y.2.2.2.2.1 q q1 q2
    · rcases List.mem_append.mp hq with h | h
      · exact Y.2.2.2.2.2 q h
      · exact hf _ (hL1 q h)
  obtain ⟨w1, w2, w3, w4⟩ := w
  have k := w4 D dA A ad' ad0 n0 p l e R s mid args below meth c T'.heap (locs ++ L1) (cells + (mC m1 - mC m)) (slots + (mZ m1 - mZ m)) ls X Y1 (fun k hk => (e5 k (Nat.lt_of_lt_of_le hk hn)).trans (ha k hk)) (Nat.le_trans hn h3) (hl.ext oL e5) hL (oL.mono h3)
    (okS.app (fun x hx => e9 x (by cases v with | none => cases hx | some z => rcases List.mem_singleton.mp hx with rfl; rfl)) (oS.mono h3)) (by omega) (by omega)
  have hst : (v.toList ++ st).map (shv ad') = (v.map (shv ad')).toList ++ st.map (shv ad) := by
    rw [List.map_append, okS.ext oS e5]
    cases v <;> rfl
  rw [hst] at k
  obtain ⟨t2, a1, b1⟩ := k T' rfl X'
  exact ⟨t2, stp t2 a1, b1⟩
end Calls5
theorem law_good : wsL_law.all goodWord = true := by decide +kernel
/-- what the tables say of a method that is called by its name -/
def CalB (y2 : Mi) (n : Nat) : Prop := Cond.initialized y2.1.cls ∈ wsL_law ∧ Cond.code y2.1 y2.2.1 y2.2.2.1 y2.2.2.2.1 ∈ wsL_law ∧ (y2.1.cls ≠ "java/lang/invoke/MethodHandle" ∧ y2.1.cls ≠ "java/lang/invoke/VarHandle" ∧ (parseMethodDescriptor y2.1.desc).map (fun d => d.parameters.length) = some n)
def CalV (y2 : Mi) (n : Nat) : Prop := CalB y2 n ∧ Cond.instanceMethod y2.1 ∈ wsL_law ∧ Cond.selects y2.1.cls y2.1 y2.1 ∈ wsL_law
def CalS (y2 : Mi) (n : Nat) : Prop := CalB y2 n ∧ Cond.static y2.1 ∈ wsL_law
def CalI (y2 : Mi) (n : Nat) : Prop := CalB y2 n ∧ Cond.instanceMethod y2.1 ∈ wsL_law ∧ y2.1.name = "<init>" ∧ y2.2.2.2.1 = none
/-- the callee's room fits -/
def fitR (y y2 : Mi) : Prop := y2.2.2.2.2.1 + 1 ≤ y.2.2.2.2.1 ∧ 8 + (y2.2.2.1 + 11) + y2.2.2.2.2.2 ≤ y.2.2.2.2.2
section Calls6
variable {y y2 : Mi} {pc : Nat} {L : List (Option Value)} {st : List Value} {m : Mm} {K : Option Value ⊕ String → Mm → Prop}
theorem goodM {n : Nat} (h : CalB y2 n) : GoodIn (miW y) (miW y2) := by
  intro w hw
  have h1 : w ∈ wsL_law := by
    rcases List.mem_cons.mp hw with e | e
    · rw [e]; exact h.2.1
    · exact e
  exact ⟨List.mem_cons_of_mem _ h1, good_of_word (List.all_eq_true.mp law_good w h1)⟩
theorem CalB.cb {D : va_G} {dA : Nat → ClassId} {A : Nat → Prop} {p : Program} {l : Launch} {R : Room} {s : State} {mid : MethodId} {args : Array Value} {meth : Method} {c : Code} {n idx : Nat} {m1 : Mm}
    (h : CalB y2 n) (X : Cx y D dA A p l R s mid args meth c) (hl : Cond.methodLink y.1.cls idx y2.1 ∈ wsL_law) (hR : fitR y y2) : CallB R s args y.1.cls idx y2.1 y2.2.1 y2.2.2.1 y2.2.2.2.1 (miW y2) (rmM y2 m m1) (mC m1 - mC m) (mZ m1 - mZ m) n :=
  callB_of n X.ts (goodM h) rfl rfl rfl (X.w h.1) (X.w hl) h.2.2 ⟨Nat.le_trans hR.1 X.2.2.2.2.2.2.2.2.2.2.2.2.2.2.2.1, Nat.le_trans hR.2 X.2.2.2.2.2.2.2.2.2.2.2.2.2.2.2.2⟩
theorem CalB.cn {D : va_G} {dA : Nat → ClassId} {A : Nat → Prop} {p : Program} {l : Launch} {R : Room} {s : State} {mid : MethodId} {args : Array Value} {meth : Method} {c : Code} {n idx : Nat} {m1 : Mm} {host : String}
    (h : CalB y2 n) (X : Cx y D dA A p l R s mid args meth c) (hl : Cond.methodLinkNest y.1.cls idx y2.1 host ∈ tables_1) (hR : fitR y y2) : va_CN R s args y.1.cls idx y2.1 host y2.2.1 y2.2.2.1 y2.2.2.2.1 (miW y2) (rmM y2 m m1) (mC m1 - mC m) (mZ m1 - mZ m) n :=
  va_cnB n X.ts (goodM h) rfl rfl rfl (X.nst hl rfl) (X.w h.1) h.2.2 ⟨Nat.le_trans hR.1 X.2.2.2.2.2.2.2.2.2.2.2.2.2.2.2.1, Nat.le_trans hR.2 X.2.2.2.2.2.2.2.2.2.2.2.2.2.2.2.2⟩
theorem Cx.fix {D : va_G} {dA : Nat → ClassId} {A : Nat → Prop} {p : Program} {l : Launch} {R : Room} {s : State} {mid : MethodId} {args : Array Value} {meth : Method} {c : Code} (X : Cx y D dA A p l R s mid args meth c) : CallFix p mid c y.2.1 y.2.2.1 s args (miW y) y.1.cls := ⟨X.1, X.2.1, X.2.2.1, X.own, X.ts⟩
theorem Dy.recv {D : va_G} {dA : Nat → ClassId} {A : Nat → Prop} {p : Program} {l : Launch} {R : Room} {s : State} {mid : MethodId} {args : Array Value} {meth : Method} {c : Code} {ad : Nat → Nat} {H : Heap} {locs : List Loc} {b ci : Nat}
    (X : Cx y D dA A p l R s mid args meth c) (Y : Dy D dA A ad m s H locs) (hb : b < mN m) (hs : (mS m b).1 = ci) (hc : ci < 13) : ∃ cell : Cell, H[ad b]? = some cell ∧ cell.vm.isStatics = false ∧ s.vm.findClass (clsOf ci).1 = some cell.cls :=
  va_recv X.kk Y.1 (clsOf_at hc) (wof_obj hb hs hc)
theorem stk {As st st0 : List Value} {b : Nat} (hst : st0 = As.reverse ++ .ref b :: st) (ad : Nat → Nat) : st0.map (shv ad) = (As.map (shv ad)).reverse ++ .ref (ad b) :: st.map (shv ad) := by
  subst hst
  simp [shv]
theorem stkS {As st st0 : List Value} (hst : st0 = As.reverse ++ st) (ad : Nat → Nat) : st0.map (shv ad) = (As.map (shv ad)).reverse ++ st.map (shv ad) := by
  subst hst
  simp
theorem okS.roomF {n : Nat} (h : okS n st) (h8 : st.length ≤ 8) {mid : MethodId} {pc : Nat} {ls : Array Slot} {st0 : List Value} (ad : Nat → Nat) : 2 * (F0 mid pc ls st0).monitorRoom + ((st.map (shv ad)).map fun v => v.category).sum ≤ 8 :=
  lv_room (by rw [h.cat]; exact h8)
theorem r_callV {idx b ci n : Nat} {As st0 : List Value} (d : decode y.2.1 pc = .ok (.invokevirtual idx, 3)) (hst : st0 = As.reverse ++ .ref b :: st) (hq : CalV y2 n) (hl : Cond.methodLink y.1.cls idx y2.1 ∈ wsL_law) (hn : As.length = n) (hR : fitR y y2) (hs : (mS m b).1 = ci) (hc : ci < 13) (hcl : (clsOf ci).1 = y2.1.cls) (h8 : st.length ≤ 8)
    (k : C y2 (.ref b :: As) m (fun o m1 => ∃ v, o = .inl v ∧ V y (pc + 3) L (v.toList ++ st) m1 K)) : V y pc L st0 m K := by
  obtain ⟨o1, m1, ⟨v, rfl, o, m', hK, w⟩, ct⟩ := k
  obtain ⟨w1, w2, w3, w4⟩ := id w
  refine ⟨o, m', hK, Nat.le_trans ct.1 w1, Nat.le_trans ct.2.1 w2, Nat.le_trans ct.2.2.1 w3, ?_⟩
  intro D dA A ad ad0 n0 p l e R s mid args below meth c H locs cells slots ls X Y ha hn0 hl0 hL oL oS hc0 hz0
  have oS2 := oS
  rw [hst] at oS2
  have oA : okS (mN m) As := oS2.left.rev
  have hb : b < mN m := oS2.right.ref
  have oR : okS (mN m) st := oS2.right.t
  rw [stk hst ad]
  refine va_Run.on (a := (Value.ref (ad b) :: As.map (shv ad)).toArray) X Y ha hn0 hl0 hL oL oR ct.1 ct.2.1 ct.2.2.1 w hc0 hz0 ?_
  have hr := Y.recv X hb hs hc
  rw [hcl] at hr
  exact va_runV (As := As.map (shv ad)) X.fix (ct.met X.2.2.2.2.2.2.2.1 D dA ad H.size) ⟨hq.1.cb X hl hR, X.w hq.2.1, X.w hq.2.2⟩ ⟨PcM.blind, hr, PcM.at X Y (okS.c hb oA)⟩ rfl (by rw [List.length_map]; exact hn) (by rw [hl0.1]; exact hL) rfl (oR.roomF h8 ad) d ⟨by omega, by omega⟩
theorem r_callVN {idx b ci n : Nat} {host : String} {As st0 : List Value} (d : decode y.2.1 pc = .ok (.invokevirtual idx, 3)) (hst : st0 = As.reverse ++ .ref b :: st) (hq : CalV y2 n) (hl : Cond.methodLinkNest y.1.cls idx y2.1 host ∈ tables_1) (hn : As.length = n) (hR : fitR y y2) (hs : (mS m b).1 = ci) (hc : ci < 13) (hcl : (clsOf ci).1 = y2.1.cls) (h8 : st.length ≤ 8)
    (k : C y2 (.ref b :: As) m (fun o m1 => ∃ v, o = .inl v ∧ V y (pc + 3) L (v.toList ++ st) m1 K)) : V y pc L st0 m K := by
  obtain ⟨o1, m1, ⟨v, rfl, o, m', hK, w⟩, ct⟩ := k
  obtain ⟨w1, w2, w3, w4⟩ := id w
  refine ⟨o, m', hK, Nat.le_trans ct.1 w1, Nat.le_trans ct.2.1 w2, Nat.le_trans ct.2.2.1 w3, ?_⟩
  intro D dA A ad ad0 n0 p l e R s mid args below meth c H locs cells slots ls X Y ha hn0 hl0 hL oL oS hc0 hz0
  have oS2 := oS
  rw [hst] at oS2
  have oA : okS (mN m) As := oS2.left.rev
  have hb : b < mN m := oS2.right.ref
  have oR : okS (mN m) st := oS2.right.t
  rw [stk hst ad]
  refine va_Run.on (a := (Value.ref (ad b) :: As.map (shv ad)).toArray) X Y ha hn0 hl0 hL oL oR ct.1 ct.2.1 ct.2.2.1 w hc0 hz0 ?_
  have hr := Y.recv X hb hs hc
  rw [hcl] at hr
  exact va_runVN (As := As.map (shv ad)) X.fix (ct.met X.2.2.2.2.2.2.2.1 D dA ad H.size) ⟨hq.1.cn X hl hR, X.w hq.2.1, X.w hq.2.2⟩ ⟨PcM.blind, hr, PcM.at X Y (okS.c hb oA)⟩ rfl (by rw [List.length_map]; exact hn) (by rw [hl0.1]; exact hL) rfl (oR.roomF h8 ad) d ⟨by omega, by omega⟩
theorem r_callS {idx n : Nat} {As st0 : List Value} (d : decode y.2.1 pc = .ok (.invokestatic idx, 3)) (hst : st0 = As.reverse ++ st) (hq : CalS y2 n) (hl : Cond.methodLink y.1.cls idx y2.1 ∈ wsL_law) (hn : As.length = n) (hR : fitR y y2) (h8 : st.length ≤ 8)
    (k : C y2 As m (fun o m1 => ∃ v, o = .inl v ∧ V y (pc + 3) L (v.toList ++ st) m1 K)) : V y pc L st0 m K := by
  obtain ⟨o1, m1, ⟨v, rfl, o, m', hK, w⟩, ct⟩ := k
  obtain ⟨w1, w2, w3, w4⟩ := id w
  refine ⟨o, m', hK, Nat.le_trans ct.1 w1, Nat.le_trans ct.2.1 w2, Nat.le_trans ct.2.2.1 w3, ?_⟩
  intro D dA A ad ad0 n0 p l e R s mid args below meth c H locs cells slots ls X Y ha hn0 hl0 hL oL oS hc0 hz0
  have oS2 := oS
  rw [hst] at oS2
  have oA : okS (mN m) As := oS2.left.rev
  have oR : okS (mN m) st := oS2.right
  rw [stkS hst ad]
  refine va_Run.on (a := (As.map (shv ad)).toArray) X Y ha hn0 hl0 hL oL oR ct.1 ct.2.1 ct.2.2.1 w hc0 hz0 ?_
  exact va_runS (As := As.map (shv ad)) X.fix (ct.met X.2.2.2.2.2.2.2.1 D dA ad H.size) ⟨hq.1.cb X hl hR, X.w hq.2⟩ ⟨PcM.blind, PcM.at X Y oA⟩ rfl (by rw [List.length_map]; exact hn) (by rw [hl0.1]; exact hL) rfl (oR.roomF h8 ad) d ⟨by omega, by omega⟩
theorem r_callSN {idx n : Nat} {host : String} {As st0 : List Value} (d : decode y.2.1 pc = .ok (.invokestatic idx, 3)) (hst : st0 = As.reverse ++ st) (hq : CalS y2 n) (hl : Cond.methodLinkNest y.1.cls idx y2.1 host ∈ tables_1) (hn : As.length = n) (hR : fitR y y2) (h8 : st.length ≤ 8)
    (k : C y2 As m (fun o m1 => ∃ v, o = .inl v ∧ V y (pc + 3) L (v.toList ++ st) m1 K)) : V y pc L st0 m K := by
  obtain ⟨o1, m1, ⟨v, rfl, o, m', hK, w⟩, ct⟩ := k
  obtain ⟨w1, w2, w3, w4⟩ := id w
  refine ⟨o, m', hK, Nat.le_trans ct.1 w1, Nat.le_trans ct.2.1 w2, Nat.le_trans ct.2.2.1 w3, ?_⟩
  intro D dA A ad ad0 n0 p l e R s mid args below meth c H locs cells slots ls X Y ha hn0 hl0 hL oL oS hc0 hz0
  have oS2 := oS
  rw [hst] at oS2
  have oA : okS (mN m) As := oS2.left.rev
  have oR : okS (mN m) st := oS2.right
  rw [stkS hst ad]
  refine va_Run.on (a := (As.map (shv ad)).toArray) X Y ha hn0 hl0 hL oL oR ct.1 ct.2.1 ct.2.2.1 w hc0 hz0 ?_
  exact va_runSN (As := As.map (shv ad)) X.fix (ct.met X.2.2.2.2.2.2.2.1 D dA ad H.size) ⟨hq.1.cn X hl hR, X.w hq.2, trivial⟩ ⟨PcM.blind, PcM.at X Y oA⟩ rfl (by rw [List.length_map]; exact hn) (by rw [hl0.1]; exact hL) rfl (oR.roomF h8 ad) d ⟨by omega, by omega⟩
theorem r_callI {idx b n : Nat} {As st0 : List Value} (d : decode y.2.1 pc = .ok (.invokespecial idx, 3)) (hst : st0 = As.reverse ++ .ref b :: st) (hq : CalI y2 n) (hl : Cond.methodLink y.1.cls idx y2.1 ∈ wsL_law) (hn : As.length = n) (hR : fitR y y2) (h8 : st.length ≤ 8)
    (k : C y2 (.ref b :: As) m (fun o m1 => ∃ v, o = .inl v ∧ V y (pc + 3) L (v.toList ++ st) m1 K)) : V y pc L st0 m K := by
  obtain ⟨o1, m1, ⟨v, rfl, o, m', hK, w⟩, ct⟩ := k
  obtain ⟨w1, w2, w3, w4⟩ := id w
  refine ⟨o, m', hK, Nat.le_trans ct.1 w1, Nat.le_trans ct.2.1 w2, Nat.le_trans ct.2.2.1 w3, ?_⟩
  intro D dA A ad ad0 n0 p l e R s mid args below meth c H locs cells slots ls X Y ha hn0 hl0 hL oL oS hc0 hz0
  have oS2 := oS
  rw [hst] at oS2
  have oA : okS (mN m) As := oS2.left.rev
  have hb : b < mN m := oS2.right.ref
  have oR : okS (mN m) st := oS2.right.t
  rw [stk hst ad]
  refine va_Run.on (a := (Value.ref (ad b) :: As.map (shv ad)).toArray) X Y ha hn0 hl0 hL oL oR ct.1 ct.2.1 ct.2.2.1 w hc0 hz0 ?_
  have cb := hq.1.cb (m := m) (m1 := m1) X hl hR
  rw [hq.2.2.2] at cb
  exact va_runI (As := As.map (shv ad)) X.fix (ct.met X.2.2.2.2.2.2.2.1 D dA ad H.size) ⟨cb, hq.2.2.1, X.w hq.2.1⟩ ⟨PcM.blind, PcM.at X Y (okS.c hb oA)⟩ rfl (by rw [List.length_map]; exact hn) (by rw [hl0.1]; exact hL) rfl (oR.roomF h8 ad) d ⟨by omega, by omega⟩
theorem r_callIN {idx b n : Nat} {host : String} {As st0 : List Value} (d : decode y.2.1 pc = .ok (.invokespecial idx, 3)) (hst : st0 = As.reverse ++ .ref b :: st) (hq : CalI y2 n) (hl : Cond.methodLinkNest y.1.cls idx y2.1 host ∈ tables_1) (hn : As.length = n) (hR : fitR y y2) (h8 : st.length ≤ 8)
    (k : C y2 (.ref b :: As) m (fun o m1 => ∃ v, o = .inl v ∧ V y (pc + 3) L (v.toList ++ st) m1 K)) : V y pc L st0 m K := by
  obtain ⟨o1, m1, ⟨v, rfl, o, m', hK, w⟩, ct⟩ := k
  obtain ⟨w1, w2, w3, w4⟩ := id w
  refine ⟨o, m', hK, Nat.le_trans ct.1 w1, Nat.le_trans ct.2.1 w2, Nat.le_trans ct.2.2.1 w3, ?_⟩
  intro D dA A ad ad0 n0 p l e R s mid args below meth c H locs cells slots ls X Y ha hn0 hl0 hL oL oS hc0 hz0
  have oS2 := oS
  rw [hst] at oS2
  have oA : okS (mN m) As := oS2.left.rev
  have hb : b < mN m := oS2.right.ref
  have oR : okS (mN m) st := oS2.right.t
  rw [stk hst ad]
  refine va_Run.on (a := (Value.ref (ad b) :: As.map (shv ad)).toArray) X Y ha hn0 hl0 hL oL oR ct.1 ct.2.1 ct.2.2.1 w hc0 hz0 ?_
  have cb := hq.1.cn (m := m) (m1 := m1) X hl hR
  rw [hq.2.2.2] at cb
  exact va_runIN (As := As.map (shv ad)) X.fix (ct.met X.2.2.2.2.2.2.2.1 D dA ad H.size) ⟨cb, hq.2.2.1, X.w hq.2.1⟩ ⟨PcM.blind, PcM.at X Y (okS.c hb oA)⟩ rfl (by rw [List.length_map]; exact hn) (by rw [hl0.1]; exact hL) rfl (oR.roomF h8 ad) d ⟨by omega, by omega⟩
/-- a call that throws -/
theorem r_callX {idx b ci n : Nat} {As st0 : List Value} (d : decode y.2.1 pc = .ok (.invokevirtual idx, 3)) (hst : st0 = As.reverse ++ .ref b :: st) (hq : CalV y2 n) (hl : Cond.methodLink y.1.cls idx y2.1 ∈ wsL_law) (hn : As.length = n) (hR : fitR y y2) (hs : (mS m b).1 = ci) (hc : ci < 13) (hcl : (clsOf ci).1 = y2.1.cls) (h8 : st.length ≤ 8)
    (k : C y2 (.ref b :: As) m (fun o m1 => ∃ E, o = .inr E ∧ K (.inr E) m1)) : V y pc L st0 m K := by
  obtain ⟨o1, m1, ⟨E, rfl, hK⟩, ct⟩ := k
  refine ⟨.inr E, m1, hK, ct.1, ct.2.1, ct.2.2.1, ?_⟩
  intro D dA A ad ad0 n0 p l e R s mid args below meth c H locs cells slots ls X Y ha hn0 hl0 hL oL oS hc0 hz0
  have oS2 := oS
  rw [hst] at oS2
  have oA : okS (mN m) As := oS2.left.rev
  have hb : b < mN m := oS2.right.ref
  have oR : okS (mN m) st := oS2.right.t
  rw [stk hst ad]
  have hr := Y.recv X hb hs hc
  rw [hcl] at hr
  have run := vx_runV (e := e) (below := below) (meth := meth) (locs := locs) (cells := cells) (slots := slots) (g := F0 mid pc ls ((As.map (shv ad)).reverse ++ .ref (ad b) :: st.map (shv ad))) (As := As.map (shv ad)) X.fix (ct.2.2.2 l D dA ad H.size X.2.2.2.2.2.2.2.1) ⟨hq.1.cb X hl hR, X.w hq.2.1, X.w hq.2.2⟩ ⟨PcM.blind, hr, PcM.at X Y (okS.c hb oA)⟩ rfl (by rw [List.length_map]; exact hn) (by rw [hl0.1]; exact hL) rfl (oR.roomF h8 ad) d ⟨by omega, by omega⟩
  intro T hT XS
  have hf := Y.free X.grow
  rcases run T hT XS with ⟨v, st₀, t, T', L1, h0, X', hL1, e1, e2, ⟨v2, ad', e3, -⟩, stp⟩ | ⟨q, st₀, t, T', L1, E1, ce, h0, X', hL1, e1, e2, ⟨ad', e3, e5, e6, e7, e8, hF⟩, hce, hcv, hcl2, stp⟩
  · cases e3
  · cases e3
    obtain ⟨hz1, hk1⟩ := hF
    rw [h0] at hz1 hk1
    have hS1 : va_S A s.heap T'.heap (locs ++ L1) := by
      refine ⟨Nat.le_trans Y.2.2.2.1 (by rw [e1]; exact hz1), fun q q1 q2 => ?_, fun q hq => ?_⟩
      · rw [e1, hk1 q (Nat.lt_of_lt_of_le q1 Y.2.2.2.1) (fun z => q2 (hf q z))]
        exact Y.2.2.2.2.1 q q1 q2
      · rcases List.mem_append.mp hq with h | h
        · exact Y.2.2.2.2.2 q h
        · exact hf _ (hL1 q h)
    have fin := vx_out (Qc := QcM D dA A ad0 n0 (.inr E) m1) (XC := XcM D dA A ad0 n0 (.inr E) m1) (free := A) (pc := pc) (E := E) (ce := ce) (q := q) (p := p) (l := l) (e := e) (R := R) (s := s) (m := mid) (args := args) (below := below) (meth := meth) (c := c) (H := T'.heap) (locs := locs ++ L1) (cells := cells + (mC m1 - mC m)) (slots := slots + (mZ m1 - mZ m)) (ls := ls) (rest := st.map (shv ad)) (mc := R.cells) (ms := R.slots)
      (fun x hx => (X.2.2.2.2.2.2.2.2.1 x hx).elim) X.2.2.2.2.1 (by rw [e1]; exact hce) hcv hcl2
      (fun t2 h2 _ => ⟨ad', rfl, fun k hk => (e5 k (Nat.lt_of_lt_of_le hk hn0)).trans (ha k hk), by rw [h2, e1]; exact e6, e7.weaken (fun _ _ _ q => hf _ q), e8, ⟨by rw [h2]; exact hS1.1, fun q h1 h3 => by rw [h2]; exact hS1.2.1 q h1 h3⟩⟩)
      hS1.2.2 hc0 hz0
    obtain ⟨t2, a1, b1⟩ := fin T' rfl X'
    exact ⟨t2, stp.trans a1, b1⟩
end Calls6
