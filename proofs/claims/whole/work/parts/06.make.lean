/-! ROWS THAT MAKE CELLS, THROW, AND RETURN -/
def dfl (n : Nat) (ty : Nat → FieldType) : List Value := (List.range n).map (fun j => defaultValue (ty j))
section Make
variable {y : Mi} {pc : Nat} {L : List (Option Value)} {st : List Value} {m : Mm} {K : Option Value ⊕ String → Mm → Prop}
/-- a row that makes a cell -/
theorem Wt.nw {pc2 : Nat} {st2 : List Value} {kd len z : Nat} {o : Option Value ⊕ String} {m' : Mm} (k : Wt y pc2 L st2 (mNew m kd len z) o m') (hs : okS (mN m) st → okS (mN m + 1) st2)
    (h : ∀ (D : va_G) (dA : Nat → ClassId) (A : Nat → Prop) (p : Program) (l : Launch) (e : Env) (R : Room) (s : State) (mid : MethodId) (args : Array Value) (below : List Frame) (meth : Method) (c : Code) (H : Heap) (locs : List Loc) (cells slots : Nat) (ls : Array Slot) (Q : State → Prop) (ad : Nat → Nat), Cx y D dA A p l R s mid args meth c → Dy D dA A ad m s H locs → okS (mN m) st → cells + 1 ≤ R.cells → slots + z ≤ R.slots →
      (∀ (ad' : Nat → Nat) (H1 : Heap), (∀ k, k < mN m → ad' k = ad k) → Dy D dA A ad' (mNew m kd len z) s H1 locs → W p l e R s mid args below meth c H1 locs (cells + 1) (slots + z) Q (F0 mid pc2 ls (st2.map (shv ad')))) → W p l e R s mid args below meth c H locs cells slots Q (F0 mid pc ls (st.map (shv ad)))) : Wt y pc L st m o m' := by
  obtain ⟨h1, h2, h3, h4⟩ := k
  have g1 : mC m + 1 ≤ mC m' := h1
  have g2 : mZ m + z ≤ mZ m' := h2
  have g3 : mN m + 1 ≤ mN m' := h3
  refine ⟨by omega, by omega, by omega, ?_⟩
  intro D dA A ad ad0 n0 p l e R s mid args below meth c H locs cells slots ls C Y ha hn hl hL oL oS hc hz
  exact h D dA A p l e R s mid args below meth c H locs cells slots ls _ ad C Y oS (by omega) (by omega) (fun ad' H1 hx Y1 => h4 D dA A ad' ad0 n0 p l e R s mid args below meth c H1 locs (cells + 1) (slots + z) ls C Y1 (fun k hk => (hx k (Nat.lt_of_lt_of_le hk hn)).trans (ha k hk)) (Nat.le_trans hn (Nat.le_succ _)) (hl.ext oL hx) hL (oL.mono (Nat.le_succ _)) (hs oS)
    (by show cells + 1 + (mC m' - (mC m + 1)) ≤ _; omega) (by show slots + z + (mZ m' - (mZ m + z)) ≤ _; omega))
theorem cel_new {ad : Nat → Nat} {dA : Nat → ClassId} {kd len z : Nat} (h : kd < 13) : cel ad dA (mNew m kd len z) (mN m) = .inr (kd, celF ad (mNew m kd len z) (mN m) kd) :=
  cel_obj (by show (if m.1 = m.1 then (kd, len) else _).1 = kd; rw [if_pos rfl]) h
theorem mNew_S {kd len z : Nat} : mS (mNew m kd len z) (mN m) = (kd, len) := if_pos rfl
theorem mNew_I {kd len z : Nat} : mI (mNew m kd len z) (mN m) = fun _ => 0 := if_pos rfl
theorem mNew_R {kd len z : Nat} : mR (mNew m kd len z) (mN m) = fun _ => none := if_pos rfl
/-- fields at their start -/
def born (ci : Nat) : List Value := (List.range (clsOf ci).2.2).map (fun j => if fdI ci j = true then Value.int 0 else Value.null)
theorem celF_born {ad : Nat → Nat} {ci len z : Nat} : celF ad (mNew m ci len z) (mN m) ci = born ci := by
  unfold celF born
  rw [mNew_I, mNew_R]
  rfl
theorem born_ok {ci : Nat} (h : ci < 13) : ∀ j, j < (clsOf ci).2.2 → defaultValue (tyOf ci j) = vp_V (born ci) j := by
  rcases (show ci = 0 ∨ ci = 1 ∨ ci = 2 ∨ ci = 3 ∨ ci = 4 ∨ ci = 5 ∨ ci = 6 ∨ ci = 7 ∨ ci = 8 ∨ ci = 9 ∨ ci = 10 ∨ ci = 11 ∨ ci = 12 by omega) with rfl | rfl | rfl | rfl | rfl | rfl | rfl | rfl | rfl | rfl | rfl | rfl | rfl <;> decide +kernel
theorem shv_rest {ad ad' : Nat → Nat} (oS : okS (mN m) st) (hx : ∀ k, k < mN m → ad' k = ad k) : st.map (shv ad') = st.map (shv ad) := oS.ext hx
theorem r_new {i ci : Nat} (d : decode y.2.1 pc = .ok (.new i, 3)) (hc : ci < 13) (hl : Cond.classLink y.1.cls i (clsOf ci).1 ∈ wsL_law) (hi : Cond.instantiable (clsOf ci).1 (clsOf ci).2.2 ∈ wsL_law) (hz : Cond.initialized (clsOf ci).1 ∈ wsL_law)
    (k : V y (pc + 3) L (.ref (mN m) :: st) (mNew m ci 0 (clsOf ci).2.2) K) : V y pc L st m K := by
  refine V.lift (fun _ _ w => Wt.nw w (fun h => okS.c (Nat.lt_succ_self _) (h.mono (Nat.le_succ _))) (fun D dA A p l e R s mid args below meth c H locs cells slots ls Q ad C Y oS hc1 hz1 k => ?_)) k
  refine va_new C.1 C.2.1 C.ts (inM hc) (tyOf ci) (tyOf_ok hc) C.own (C.w hl) (C.w hi) (C.w hz) C.kk Y.1 Y.2.1 Y.2.2.2 C.grow (clsOf_at hc) (fs := born ci) (born_ok hc) hc1 hz1 d (fun q H1 hP hD hS => ?_)
  have e : wof ad dA m ++ [(q, .inr (ci, born ci))] = wof (adn ad (mN m) q) dA (mNew m ci 0 (clsOf ci).2.2) := wof_new Y.2.2.1 adn_at adn_lt (by rw [cel_new hc, celF_born])
  rw [e] at hP hD
  have k1 := k (adn ad (mN m) q) H1 adn_lt ⟨hP, hD, wfm_new Y.2.2.1, hS⟩
  rw [List.map_cons, oS.ext adn_lt, show shv (adn ad (mN m) q) (.ref (mN m)) = .ref q from congrArg Value.ref adn_at] at k1
  exact k1
theorem arr_id {D : va_G} {dA : Nat → ClassId} {s : State} {kd : Nat} {cA : ClassId} (h1 : 13 ≤ kd) (h2 : kd < 20) (hK : va_K D vwCl (tyl dA) s) (hK2 : va_K D vwCl (tyl dA ++ [(cA, tyk kd)]) s) : cA = dA kd := by
  have a1 := (hK.2 (kd - 13) _ (tyl_at h1 h2)).2
  have a2 := (hK2.2 7 (cA, tyk kd) rfl).2
  have key : ∀ ty, va_RA s (dA kd) ty → va_RA s cA ty → cA = dA kd := by
    intro ty b1 b2
    cases ty with
    | object C =>
      obtain ⟨_, _, -, -, -, h4⟩ := b1
      obtain ⟨_, _, -, -, -, h5⟩ := b2
      exact Option.some.inj (h5.symm.trans h4)
    | _ => exact Option.some.inj (Eq.trans (Eq.symm b2) b1)
  exact key _ a1 a2
theorem r_newI {n : Int32} {N : Nat} (d : decode y.2.1 pc = .ok (.newarray .int, 2)) (hw : Cond.arrayClass .int ∈ wsL_law) (hn : ¬ n < 0) (hN : n.toNatClampNeg = N) (hb : N * 4 ≤ 536870912)
    (k : V y (pc + 2) L (.ref (mN m) :: st) (mNew m 13 N N) K) : V y pc L (.int n :: st) m K := by
  refine V.lift (fun _ _ w => Wt.nw w (fun h => okS.c (Nat.lt_succ_self _) (h.t.mono (Nat.le_succ _))) (fun D dA A p l e R s mid args below meth c H locs cells slots ls Q ad C Y oS hc1 hz1 k => ?_)) k
  refine va_newa C.1 C.2.1 (atype := .int) (ty := .int) (C.w hw) rfl C.kk Y.1 Y.2.1 Y.2.2.2 C.grow (a0 := (N, .inl (fun _ => 0))) (fun cA => rfl) hn hN hb hc1 hz1 d (fun q cA H1 hK2 hP hD hS => ?_)
  have hid : cA = dA 13 := arr_id (kd := 13) (by omega) (by omega) C.kk hK2
  subst hid
  have e : wof ad dA m ++ [(q, .inl (dA 13, N, .inl (fun _ => 0)))] = wof (adn ad (mN m) q) dA (mNew m 13 N N) := wof_new Y.2.2.1 adn_at adn_lt (by rw [cel_int (kd := 13) mNew_S (Or.inl rfl), mNew_I])
  rw [e] at hP hD
  have k1 := k (adn ad (mN m) q) H1 adn_lt ⟨hP, hD, wfm_new Y.2.2.1, hS⟩
  rw [List.map_cons, oS.t.ext adn_lt, show shv (adn ad (mN m) q) (.ref (mN m)) = .ref q from congrArg Value.ref adn_at] at k1
  exact k1
theorem r_newZ {n : Int32} {N : Nat} (d : decode y.2.1 pc = .ok (.newarray .boolean, 2)) (hw : Cond.arrayClass .boolean ∈ wsL_law) (hn : ¬ n < 0) (hN : n.toNatClampNeg = N) (hb : N * 1 ≤ 536870912)
    (k : V y (pc + 2) L (.ref (mN m) :: st) (mNew m 14 N N) K) : V y pc L (.int n :: st) m K := by
  refine V.lift (fun _ _ w => Wt.nw w (fun h => okS.c (Nat.lt_succ_self _) (h.t.mono (Nat.le_succ _))) (fun D dA A p l e R s mid args below meth c H locs cells slots ls Q ad C Y oS hc1 hz1 k => ?_)) k
  refine va_newa C.1 C.2.1 (atype := .boolean) (ty := .boolean) (C.w hw) rfl C.kk Y.1 Y.2.1 Y.2.2.2 C.grow (a0 := (N, .inl (fun _ => 0))) (fun cA => rfl) hn hN hb hc1 hz1 d (fun q cA H1 hK2 hP hD hS => ?_)
  have hid : cA = dA 14 := arr_id (kd := 14) (by omega) (by omega) C.kk hK2
  subst hid
  have e : wof ad dA m ++ [(q, .inl (dA 14, N, .inl (fun _ => 0)))] = wof (adn ad (mN m) q) dA (mNew m 14 N N) := wof_new Y.2.2.1 adn_at adn_lt (by rw [cel_int (kd := 14) mNew_S (Or.inr rfl), mNew_I])
  rw [e] at hP hD
  have k1 := k (adn ad (mN m) q) H1 adn_lt ⟨hP, hD, wfm_new Y.2.2.1, hS⟩
  rw [List.map_cons, oS.t.ext adn_lt, show shv (adn ad (mN m) q) (.ref (mN m)) = .ref q from congrArg Value.ref adn_at] at k1
  exact k1
theorem wof_ast0 {ad : Nat → Nat} {dA : Nat → ClassId} {k kd len j : Nat} (hs : mS m k = (kd, len)) (hc : 15 ≤ kd) : (wof ad dA m).set k (ad k, .inl (dA kd, len, .inr (.inr (.inr (.inr (va_up (fun j => (mR m k j).map ad) j none)))))) = wof ad dA (mSetR m k j none) :=
  wof_set rfl (by
    rw [cel_ref (m := mSetR m k j none) hs hc]
    refine congrArg (fun f => Sum.inl (dA kd, len, Sum.inr (Sum.inr (Sum.inr (Sum.inr f))))) (funext fun i => ?_)
    show Option.map ad (up2 (mR m) k j none k i) = va_up (fun j => (mR m k j).map ad) j none i
    by_cases h : i = j
    · subst h
      rw [up2_at]
      exact (if_pos rfl).symm
    · rw [up2_off (fun q => h q.symm)]
      exact (if_neg h).symm) (fun i hi => cel_same rfl rfl (up2_ne hi))
theorem r_aast0 {a kd n : Nat} {i : Int32} (d : decode y.2.1 pc = .ok (.aastore, 1)) (hs : mS m a = (kd, n)) (h1 : 15 ≤ kd) (h2 : kd < 19) (hi : vp_in i n) (k : V y (pc + 1) L st (mSetR m a i.toNatClampNeg none) K) : V y pc L (.null :: .int i :: .ref a :: st) m K :=
  V.lift (m2 := (mSetR m a i.toNatClampNeg none)) (fun _ _ w => Wt.wr w rfl rfl rfl (fun h => h.t.t.t) (fun _ _ _ _ _ _ _ _ _ _ _ _ _ _ _ _ _ _ _ ad C Y h k => va_astqN C.1 C.2.1 C.kk Y.1 Y.2.1 Y.2.2.2 a (kd - 13) (C := (clsOf (clsKd kd)).1) (wof_ar h.t.t.ref hs h1) (by rw [tyl_at (by omega) (by omega), (clsKd_ok h1 h2).2]) hi d (fun H1 locs1 hP hD hS => k H1 locs1 (by
    rw [wof_ast0 hs h1] at hP hD
    exact ⟨hP, hD, wfm_setR Y.2.2.1 (fun _ q => by cases q), hS⟩)))) k
/-- the constructor of Object -/
theorem r_objInit {i a : Nat} (d : decode y.2.1 pc = .ok (.invokespecial i, 3)) (hl : Cond.methodLink y.1.cls i Lib.objectInit ∈ wsL_law) (hi : Cond.instanceMethod Lib.objectInit ∈ wsL_law) (hcd : Cond.code Lib.objectInit ⟨#[0xb1]⟩ 1 none ∈ wsL_law) (hf : 1 ≤ y.2.2.2.2.1) (ho : st.length + 12 ≤ y.2.2.2.2.2) (k : V y (pc + 3) L st m K) : V y pc L (.ref a :: st) m K := by
  obtain ⟨o, m', hK, h1, h2, h3, h4⟩ := k
  refine ⟨o, m', hK, h1, h2, h3, ?_⟩
  intro D dA A ad ad0 n0 p l e R s mid args below meth c H locs cells slots ls X Y ha hn hl0 hL oL oS hc hz
  have R1 := X.2.2.2.2.2.2.2.2.2.2.2.2.2.2.2.1
  have R2 := X.2.2.2.2.2.2.2.2.2.2.2.2.2.2.2.2
  refine W.objInit X.1 X.2.1 X.own (X.w hl) (X.w hi) (X.w hcd) rfl (by rw [hl0.1, hL]; exact X.2.2.1.symm) rfl d (by omega) ?_ (h4 D dA A ad ad0 n0 p l e R s mid args below meth c H locs cells slots ls X Y ha hn hl0 hL oL oS.t hc hz)
  have h9 := oS.t.cat ad
  show 2 * 0 + _ + 12 ≤ _
  rw [h9]
  omega
theorem r_iret {v : Int32} {ty : FieldType} (d : decode y.2.1 pc = .ok (.ireturn, 1)) (hr : y.2.2.2.1 = some ty) (hn : narrow ty (.int v) = .int v) (k : K (.inl (some (.int v))) m) : V y pc L [.int v] m K := by
  refine ⟨_, m, k, Nat.le_refl _, Nat.le_refl _, Nat.le_refl _, ?_⟩
  intro D dA A ad ad0 n0 p l e R s mid args below meth c H locs cells slots ls X Y ha hn0 hl0 hL oL oS hc hz
  refine W.widen (k := R.cells) (n := R.slots) (by omega) (by omega) (vx_ret ?_)
  exact W.zret X.1 X.2.1 (X.2.2.2.1.trans hr) hn (fun t ht hW => ⟨_, ad, rfl, rfl, ha, by rw [ht]; exact Y.1, Y.2.1, Y.2.2.1, fun x hx => by cases hx; exact trivial, Y.2.2.2.F ht⟩) Y.2.2.2.2.2 d X.2.2.2.2.1
theorem r_ret (d : decode y.2.1 pc = .ok (.return_, 1)) (hr : y.2.2.2.1 = none) (k : K (.inl none) m) : V y pc L [] m K := by
  refine ⟨_, m, k, Nat.le_refl _, Nat.le_refl _, Nat.le_refl _, ?_⟩
  intro D dA A ad ad0 n0 p l e R s mid args below meth c H locs cells slots ls X Y ha hn0 hl0 hL oL oS hc hz
  refine W.widen (k := R.cells) (n := R.slots) (by omega) (by omega) (vx_ret ?_)
  exact W.vret X.1 X.2.1 (X.2.2.2.1.trans hr) (fun t ht hW => ⟨none, ad, rfl, rfl, ha, by rw [ht]; exact Y.1, Y.2.1, Y.2.2.1, fun x hx => (by cases hx), Y.2.2.2.F ht⟩) Y.2.2.2.2.2 d X.2.2.2.2.1
theorem r_aret {r : Option Nat} {rt : FieldType} (d : decode y.2.1 pc = .ok (.areturn, 1)) (hr : y.2.2.2.1 = some rt) (hrt : (∃ n, rt = .object n) ∨ ∃ t, rt = .array t) (k : K (.inl (some (va_rf r))) m) : V y pc L [va_rf r] m K := by
  refine ⟨_, m, k, Nat.le_refl _, Nat.le_refl _, Nat.le_refl _, ?_⟩
  intro D dA A ad ad0 n0 p l e R s mid args below meth c H locs cells slots ls X Y ha hn0 hl0 hL oL oS hc hz
  refine W.widen (k := R.cells) (n := R.slots) (by omega) (by omega) (vx_ret ?_)
  exact W.aret X.1 X.2.1 (X.2.2.2.1.trans hr) hrt (by cases r with | none => exact Or.inl rfl | some a => exact Or.inr ⟨_, rfl⟩) (fun t ht hW => ⟨_, ad, rfl, rfl, ha, by rw [ht]; exact Y.1, Y.2.1, Y.2.2.1, fun x hx => by cases hx; exact oS.h, Y.2.2.2.F ht⟩) Y.2.2.2.2.2 d X.2.2.2.2.1
end Make
