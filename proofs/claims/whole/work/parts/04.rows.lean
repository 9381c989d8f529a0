/-! ROWS THAT READ AND WRITE -/
theorem inW {ci : Nat} (h : ci < 13) : ∀ w ∈ u_ws (clsOf ci).1 (clsOf ci).2.1 (clsOf ci).2.2, w ∈ wsL_law := by
  rcases (show ci = 0 ∨ ci = 1 ∨ ci = 2 ∨ ci = 3 ∨ ci = 4 ∨ ci = 5 ∨ ci = 6 ∨ ci = 7 ∨ ci = 8 ∨ ci = 9 ∨ ci = 10 ∨ ci = 11 ∨ ci = 12 by omega) with rfl | rfl | rfl | rfl | rfl | rfl | rfl | rfl | rfl | rfl | rfl | rfl | rfl
  · exact inlX0
  · exact inlX1
  · exact inlX2
  · exact inlX3
  · exact inlX4
  · exact inlX5
  · exact inlX6
  · exact inlX7
  · exact inlX8
  · exact inlX9
  · exact inlX10
  · exact inlX11
  · exact inlX12
theorem inM {y : Mi} {ci : Nat} (h : ci < 13) : ∀ w ∈ u_ws (clsOf ci).1 (clsOf ci).2.1 (clsOf ci).2.2, w ∈ miW y := fun w q => List.mem_cons_of_mem _ (inW h w q)
def tyOf (ci : Nat) : Nat → FieldType := match ci with
  | 0 => tyX0
  | 1 => tyX1
  | 2 => tyX2
  | 3 => tyX3
  | 4 => tyX4
  | 5 => tyX5
  | 6 => tyX6
  | 7 => tyX7
  | 8 => tyX8
  | 9 => tyX9
  | 10 => tyX10
  | 11 => tyX11
  | _ => tyX12
theorem tyOf_ok {ci : Nat} (h : ci < 13) : ∀ k, k < (clsOf ci).2.2 → parseFieldDescriptor ((clsOf ci).2.1 k).2.2.1 = some (tyOf ci k) := by
  rcases (show ci = 0 ∨ ci = 1 ∨ ci = 2 ∨ ci = 3 ∨ ci = 4 ∨ ci = 5 ∨ ci = 6 ∨ ci = 7 ∨ ci = 8 ∨ ci = 9 ∨ ci = 10 ∨ ci = 11 ∨ ci = 12 by omega) with rfl | rfl | rfl | rfl | rfl | rfl | rfl | rfl | rfl | rfl | rfl | rfl | rfl
  · exact tyX0_ok
  · exact tyX1_ok
  · exact tyX2_ok
  · exact tyX3_ok
  · exact tyX4_ok
  · exact tyX5_ok
  · exact tyX6_ok
  · exact tyX7_ok
  · exact tyX8_ok
  · exact tyX9_ok
  · exact tyX10_ok
  · exact tyX11_ok
  · exact tyX12_ok
theorem nmOf {ci : Nat} (h : ci < 13) : ∀ a, a < (clsOf ci).2.2 → ∀ b, b < (clsOf ci).2.2 → a ≠ b → ((clsOf ci).2.1 a).2.1 ≠ ((clsOf ci).2.1 b).2.1 := by
  rcases (show ci = 0 ∨ ci = 1 ∨ ci = 2 ∨ ci = 3 ∨ ci = 4 ∨ ci = 5 ∨ ci = 6 ∨ ci = 7 ∨ ci = 8 ∨ ci = 9 ∨ ci = 10 ∨ ci = 11 ∨ ci = 12 by omega) with rfl | rfl | rfl | rfl | rfl | rfl | rfl | rfl | rfl | rfl | rfl | rfl | rfl
  · exact nmX0
  · exact nmX1
  · exact nmX2
  · exact nmX3
  · exact nmX4
  · exact nmX5
  · exact nmX6
  · exact nmX7
  · exact nmX8
  · exact nmX9
  · exact nmX10
  · exact nmX11
  · exact nmX12
section Rows2
variable {y : Mi} {pc : Nat} {L : List (Option Value)} {st : List Value} {m : Mm} {K : Option Value ⊕ String → Mm → Prop}
/-- a row that reads memory -/
theorem Wt.rd {pc2 : Nat} {st2 : List Value} {o : Option Value ⊕ String} {m' : Mm} (k : Wt y pc2 L st2 m o m') (hs : wfm m → okS (mN m) st → okS (mN m) st2)
    (h : ∀ (D : va_G) (dA : Nat → ClassId) (A : Nat → Prop) (p : Program) (l : Launch) (e : Env) (R : Room) (s : State) (mid : MethodId) (args : Array Value) (below : List Frame) (meth : Method) (c : Code) (H : Heap) (locs : List Loc) (cells slots : Nat) (ls : Array Slot) (Q : State → Prop) (ad : Nat → Nat), Cx y D dA A p l R s mid args meth c → Dy D dA A ad m s H locs → okS (mN m) st →
      W p l e R s mid args below meth c H locs cells slots Q (F0 mid pc2 ls (st2.map (shv ad))) → W p l e R s mid args below meth c H locs cells slots Q (F0 mid pc ls (st.map (shv ad)))) : Wt y pc L st m o m' := by
  obtain ⟨h1, h2, h3, h4⟩ := k
  refine ⟨h1, h2, h3, ?_⟩
  intro D dA A ad ad0 n0 p l e R s mid args below meth c H locs cells slots ls C Y ha hn hl hL oL oS hc hz
  exact h D dA A p l e R s mid args below meth c H locs cells slots ls _ ad C Y oS (h4 D dA A ad ad0 n0 p l e R s mid args below meth c H locs cells slots ls C Y ha hn hl hL oL (hs Y.2.2.1 oS) hc hz)
/-- a row that writes memory -/
theorem Wt.wr {pc2 : Nat} {st2 : List Value} {m2 : Mm} {o : Option Value ⊕ String} {m' : Mm} (k : Wt y pc2 L st2 m2 o m') (hC : mC m2 = mC m) (hZ : mZ m2 = mZ m) (hN : mN m2 = mN m) (hs : okS (mN m) st → okS (mN m) st2)
    (h : ∀ (D : va_G) (dA : Nat → ClassId) (A : Nat → Prop) (p : Program) (l : Launch) (e : Env) (R : Room) (s : State) (mid : MethodId) (args : Array Value) (below : List Frame) (meth : Method) (c : Code) (H : Heap) (locs : List Loc) (cells slots : Nat) (ls : Array Slot) (Q : State → Prop) (ad : Nat → Nat), Cx y D dA A p l R s mid args meth c → Dy D dA A ad m s H locs → okS (mN m) st →
      (∀ (H1 : Heap) (locs1 : List Loc), Dy D dA A ad m2 s H1 locs1 → W p l e R s mid args below meth c H1 locs1 cells slots Q (F0 mid pc2 ls (st2.map (shv ad)))) → W p l e R s mid args below meth c H locs cells slots Q (F0 mid pc ls (st.map (shv ad)))) : Wt y pc L st m o m' := by
  obtain ⟨h1, h2, h3, h4⟩ := k
  rw [hC] at h1
  rw [hZ] at h2
  rw [hN] at h3
  refine ⟨h1, h2, h3, ?_⟩
  intro D dA A ad ad0 n0 p l e R s mid args below meth c H locs cells slots ls C Y ha hn hl hL oL oS hc hz
  exact h D dA A p l e R s mid args below meth c H locs cells slots ls _ ad C Y oS (fun H1 locs1 Y1 => h4 D dA A ad ad0 n0 p l e R s mid args below meth c H1 locs1 cells slots ls C Y1 ha (by rw [hN]; exact hn) hl hL (by rw [hN]; exact oL) (by rw [hN]; exact hs oS) (by rw [hC]; exact hc) (by rw [hZ]; exact hz))
theorem Cx.kk {D : va_G} {dA : Nat → ClassId} {A : Nat → Prop} {p : Program} {l : Launch} {R : Room} {s : State} {mid : MethodId} {args : Array Value} {meth : Method} {c : Code} (C : Cx y D dA A p l R s mid args meth c) : va_K D vwCl (tyl dA) s := C.2.2.2.2.2.2.2.2.2.2.1
theorem Cx.own {D : va_G} {dA : Nat → ClassId} {A : Nat → Prop} {p : Program} {l : Launch} {R : Room} {s : State} {mid : MethodId} {args : Array Value} {meth : Method} {c : Code} (C : Cx y D dA A p l R s mid args meth c) : s.vm.findClass y.1.cls = some mid.cls := C.2.2.2.2.2.1
theorem Cx.ts {D : va_G} {dA : Nat → ClassId} {A : Nat → Prop} {p : Program} {l : Launch} {R : Room} {s : State} {mid : MethodId} {args : Array Value} {meth : Method} {c : Code} (C : Cx y D dA A p l R s mid args meth c) : ∀ w ∈ miW y, w.before args s = true := C.2.2.2.2.2.2.1
theorem Cx.w {D : va_G} {dA : Nat → ClassId} {A : Nat → Prop} {p : Program} {l : Launch} {R : Room} {s : State} {mid : MethodId} {args : Array Value} {meth : Method} {c : Code} (C : Cx y D dA A p l R s mid args meth c) {w : Cond} (h : w ∈ wsL_law) : w.before args s = true := C.ts w (List.mem_cons_of_mem _ h)
theorem Cx.nst {D : va_G} {dA : Nat → ClassId} {A : Nat → Prop} {p : Program} {l : Launch} {R : Room} {s : State} {mid : MethodId} {args : Array Value} {meth : Method} {c : Code} (C : Cx y D dA A p l R s mid args meth c) {w : Cond} (h : w ∈ tables_1) (hi : isNest w = true) : va_Nw w s := C.2.2.2.2.2.2.2.2.2.2.2.1 w h hi
theorem Cx.grow {D : va_G} {dA : Nat → ClassId} {A : Nat → Prop} {p : Program} {l : Launch} {R : Room} {s : State} {mid : MethodId} {args : Array Value} {meth : Method} {c : Code} (C : Cx y D dA A p l R s mid args meth c) : ∀ q, s.heap.size ≤ q → A q := C.2.2.2.2.2.2.2.2.2.2.2.2.2.2.1
theorem Cx.nm {D : va_G} {dA : Nat → ClassId} {A : Nat → Prop} {p : Program} {l : Launch} {R : Room} {s : State} {mid : MethodId} {args : Array Value} {meth : Method} {c : Code} (C : Cx y D dA A p l R s mid args meth c) : meth.name = y.1.name := C.2.2.2.2.2.2.2.2.2.1
theorem okS.ref {n a : Nat} {st : List Value} (h : okS n (.ref a :: st)) : a < n := h.h
theorem okv_rf {m : Mm} (hw : wfm m) {a j : Nat} (ha : a < mN m) : okv (mN m) (va_rf (mR m a j)) := by
  cases h : mR m a j with
  | none => exact trivial
  | some b => exact hw a j b ha h
theorem wof_obj {ad : Nat → Nat} {dA : Nat → ClassId} {a ci : Nat} (ha : a < mN m) (hs : (mS m a).1 = ci) (hc : ci < 13) : (wof ad dA m)[a]? = some (ad a, .inr (ci, celF ad m a ci)) := by rw [wof_get ha, cel_obj hs hc]
theorem r_getI {i ci j a : Nat} (d : decode y.2.1 pc = .ok (.getfield i, 3)) (hs : (mS m a).1 = ci) (hc : ci < 13) (hj : j < (clsOf ci).2.2) (hf : fdI ci j = true) (hw : Cond.fieldLink y.1.cls i ((clsOf ci).2.1 j).1 ((clsOf ci).2.1 j).2.1 ((clsOf ci).2.1 j).2.2.1 ∈ wsL_law) (k : V y (pc + 3) L (.int (mI m a j) :: st) m K) : V y pc L (.ref a :: st) m K :=
  V.lift (fun _ _ w => Wt.rd w (fun _ h => okS.ci h.t) (fun _ _ _ _ _ _ _ _ _ _ _ _ _ _ _ _ _ _ _ ad C Y h k => va_get C.1 C.2.1 C.ts (inM hc) C.own C.kk Y.1 a (wof_obj h.ref hs hc) (clsOf_at hc) j hj (C.w hw) (fun _ q => q) (by rw [celF_at hj, if_pos hf]; rfl) d k)) k
theorem r_getR {i ci j a : Nat} {r : Option Nat} (d : decode y.2.1 pc = .ok (.getfield i, 3)) (hs : (mS m a).1 = ci) (hc : ci < 13) (hj : j < (clsOf ci).2.2) (hf : fdI ci j = false) (hw : Cond.fieldLink y.1.cls i ((clsOf ci).2.1 j).1 ((clsOf ci).2.1 j).2.1 ((clsOf ci).2.1 j).2.2.1 ∈ wsL_law) (hr : mR m a j = r) (k : V y (pc + 3) L (va_rf r :: st) m K) : V y pc L (.ref a :: st) m K := by
  subst hr
  exact V.lift (fun _ _ w => Wt.rd w (fun q h => okS.c (okv_rf q h.ref) h.t) (fun _ _ _ _ _ _ _ _ _ _ _ _ _ _ _ _ _ _ _ ad C Y h k => va_get C.1 C.2.1 C.ts (inM hc) C.own C.kk Y.1 a (wof_obj h.ref hs hc) (clsOf_at hc) j hj (C.w hw) (fun _ q => q) (by rw [celF_at hj, if_neg (by rw [hf]; decide)]; rw [shv_rf]) d k)) k
theorem r_getIN {i ci j a : Nat} {host : String} (d : decode y.2.1 pc = .ok (.getfield i, 3)) (hs : (mS m a).1 = ci) (hc : ci < 13) (hj : j < (clsOf ci).2.2) (hf : fdI ci j = true) (hw : Cond.fieldLinkNest y.1.cls i ((clsOf ci).2.1 j).1 ((clsOf ci).2.1 j).2.1 ((clsOf ci).2.1 j).2.2.1 host ∈ tables_1) (k : V y (pc + 3) L (.int (mI m a j) :: st) m K) : V y pc L (.ref a :: st) m K :=
  V.lift (fun _ _ w => Wt.rd w (fun _ h => okS.ci h.t) (fun _ _ _ _ _ _ _ _ _ _ _ _ _ _ _ _ _ _ _ ad C Y h k => va_getN C.1 C.2.1 C.ts (inM hc) C.own C.kk Y.1 a (wof_obj h.ref hs hc) (clsOf_at hc) j hj (va_Nw.use rfl (C.nst hw rfl)) (fun _ q => q) (by rw [celF_at hj, if_pos hf]; rfl) d k)) k
theorem r_getRN {i ci j a : Nat} {r : Option Nat} {host : String} (d : decode y.2.1 pc = .ok (.getfield i, 3)) (hs : (mS m a).1 = ci) (hc : ci < 13) (hj : j < (clsOf ci).2.2) (hf : fdI ci j = false) (hw : Cond.fieldLinkNest y.1.cls i ((clsOf ci).2.1 j).1 ((clsOf ci).2.1 j).2.1 ((clsOf ci).2.1 j).2.2.1 host ∈ tables_1) (hr : mR m a j = r) (k : V y (pc + 3) L (va_rf r :: st) m K) : V y pc L (.ref a :: st) m K := by
  subst hr
  exact V.lift (fun _ _ w => Wt.rd w (fun q h => okS.c (okv_rf q h.ref) h.t) (fun _ _ _ _ _ _ _ _ _ _ _ _ _ _ _ _ _ _ _ ad C Y h k => va_getN C.1 C.2.1 C.ts (inM hc) C.own C.kk Y.1 a (wof_obj h.ref hs hc) (clsOf_at hc) j hj (va_Nw.use rfl (C.nst hw rfl)) (fun _ q => q) (by rw [celF_at hj, if_neg (by rw [hf]; decide)]; rw [shv_rf]) d k)) k
theorem Dy.putI {D : va_G} {dA : Nat → ClassId} {A : Nat → Prop} {ad : Nat → Nat} {s : State} {H H1 : Heap} {locs locs1 : List Loc} {a ci j : Nat} {v : Int32} (Y : Dy D dA A ad m s H locs) (hs : (mS m a).1 = ci) (hc : ci < 13) (hf : fdI ci j = true)
    (hP : va_P D vwCl ((wof ad dA m).set a (ad a, .inr (ci, (celF ad m a ci).set j (.int v)))) H1) (hD : va_D A ((wof ad dA m).set a (ad a, .inr (ci, (celF ad m a ci).set j (.int v))))) (hS : va_S A s.heap H1 locs1) : Dy D dA A ad (mSetI m a j v) s H1 locs1 := by
  rw [wof_putI hs hc hf] at hP hD
  exact ⟨hP, hD, Y.2.2.1, hS⟩
theorem Dy.putR {D : va_G} {dA : Nat → ClassId} {A : Nat → Prop} {ad : Nat → Nat} {s : State} {H H1 : Heap} {locs locs1 : List Loc} {a ci j : Nat} {v : Option Nat} (Y : Dy D dA A ad m s H locs) (hs : (mS m a).1 = ci) (hc : ci < 13) (hf : fdI ci j = false) (hv : ∀ b, v = some b → b < mN m)
    (hP : va_P D vwCl ((wof ad dA m).set a (ad a, .inr (ci, (celF ad m a ci).set j (va_rf (v.map ad))))) H1) (hD : va_D A ((wof ad dA m).set a (ad a, .inr (ci, (celF ad m a ci).set j (va_rf (v.map ad)))))) (hS : va_S A s.heap H1 locs1) : Dy D dA A ad (mSetR m a j v) s H1 locs1 := by
  rw [wof_putR hs hc hf] at hP hD
  exact ⟨hP, hD, wfm_setR Y.2.2.1 hv, hS⟩
theorem r_putI {i ci j a : Nat} {v : Int32} {ty : FieldType} (d : decode y.2.1 pc = .ok (.putfield i, 3)) (hs : (mS m a).1 = ci) (hc : ci < 13) (hj : j < (clsOf ci).2.2) (hf : fdI ci j = true) (hw : Cond.fieldLink y.1.cls i ((clsOf ci).2.1 j).1 ((clsOf ci).2.1 j).2.1 ((clsOf ci).2.1 j).2.2.1 ∈ wsL_law) (hfin : ((clsOf ci).2.1 j).2.2.2 = false) (hd : parseFieldDescriptor ((clsOf ci).2.1 j).2.2.1 = some ty) (hn : narrow ty (.int v) = .int v) (hfit : fits ty (.int v) = true) (k : V y (pc + 3) L st (mSetI m a j v) K) : V y pc L (.int v :: .ref a :: st) m K :=
  V.lift (m2 := (mSetI m a j v)) (fun _ _ w => Wt.wr w rfl rfl rfl (fun h => h.t.t) (fun _ _ _ _ _ _ _ _ _ _ _ _ _ _ _ _ _ _ _ ad C Y h k => va_put C.1 C.2.1 C.ts (inM hc) (tyOf ci) (tyOf_ok hc) (nmOf hc) C.own C.kk Y.1 Y.2.1 Y.2.2.2 a (wof_obj h.t.ref hs hc) (clsOf_at hc) j hj (C.w hw) (fun _ q => q) hfin hd hn hfit (by rw [celF_len]; exact hj) d (fun H1 locs1 hP hD hS => k H1 locs1 (Y.putI hs hc hf hP hD hS)))) k
theorem r_putIN {i ci j a : Nat} {v : Int32} {ty : FieldType} {host : String} (d : decode y.2.1 pc = .ok (.putfield i, 3)) (hs : (mS m a).1 = ci) (hc : ci < 13) (hj : j < (clsOf ci).2.2) (hf : fdI ci j = true) (hw : Cond.fieldLinkNest y.1.cls i ((clsOf ci).2.1 j).1 ((clsOf ci).2.1 j).2.1 ((clsOf ci).2.1 j).2.2.1 host ∈ tables_1) (hfin : ((clsOf ci).2.1 j).2.2.2 = false) (hd : parseFieldDescriptor ((clsOf ci).2.1 j).2.2.1 = some ty) (hn : narrow ty (.int v) = .int v) (hfit : fits ty (.int v) = true) (k : V y (pc + 3) L st (mSetI m a j v) K) : V y pc L (.int v :: .ref a :: st) m K :=
  V.lift (m2 := (mSetI m a j v)) (fun _ _ w => Wt.wr w rfl rfl rfl (fun h => h.t.t) (fun _ _ _ _ _ _ _ _ _ _ _ _ _ _ _ _ _ _ _ ad C Y h k => va_putN C.1 C.2.1 C.ts (inM hc) (tyOf ci) (tyOf_ok hc) (nmOf hc) C.own C.kk Y.1 Y.2.1 Y.2.2.2 a (wof_obj h.t.ref hs hc) (clsOf_at hc) j hj (va_Nw.use rfl (C.nst hw rfl)) (fun _ q => q) hfin hd hn hfit (by rw [celF_len]; exact hj) d (fun H1 locs1 hP hD hS => k H1 locs1 (Y.putI hs hc hf hP hD hS)))) k
theorem r_putIF {i ci j a : Nat} {v : Int32} {ty : FieldType} (d : decode y.2.1 pc = .ok (.putfield i, 3)) (hs : (mS m a).1 = ci) (hc : ci < 13) (hj : j < (clsOf ci).2.2) (hf : fdI ci j = true) (hw : Cond.fieldLink y.1.cls i ((clsOf ci).2.1 j).1 ((clsOf ci).2.1 j).2.1 ((clsOf ci).2.1 j).2.2.1 ∈ wsL_law) (hfin : ((clsOf ci).2.1 j).2.2.2 = true) (hini : y.1.name = "<init>") (hdecl : ((clsOf ci).2.1 j).1 = y.1.cls) (hd : parseFieldDescriptor ((clsOf ci).2.1 j).2.2.1 = some ty) (hn : narrow ty (.int v) = .int v) (hfit : fits ty (.int v) = true) (k : V y (pc + 3) L st (mSetI m a j v) K) : V y pc L (.int v :: .ref a :: st) m K :=
  V.lift (m2 := (mSetI m a j v)) (fun _ _ w => Wt.wr w rfl rfl rfl (fun h => h.t.t) (fun _ _ _ _ _ _ _ _ _ _ _ _ _ _ _ _ _ _ _ ad C Y h k => va_putF C.1 C.2.1 C.ts (inM hc) (tyOf ci) (tyOf_ok hc) (nmOf hc) C.own C.kk Y.1 Y.2.1 Y.2.2.2 a (wof_obj h.t.ref hs hc) (clsOf_at hc) j hj (C.w hw) (fun _ q => q) hfin (C.nm.trans hini) hdecl hd hn hfit (by rw [celF_len]; exact hj) d (fun H1 locs1 hP hD hS => k H1 locs1 (Y.putI hs hc hf hP hD hS)))) k
theorem r_putR {i ci j a b : Nat} {ty : FieldType} (d : decode y.2.1 pc = .ok (.putfield i, 3)) (hs : (mS m a).1 = ci) (hc : ci < 13) (hj : j < (clsOf ci).2.2) (hf : fdI ci j = false) (hw : Cond.fieldLink y.1.cls i ((clsOf ci).2.1 j).1 ((clsOf ci).2.1 j).2.1 ((clsOf ci).2.1 j).2.2.1 ∈ wsL_law) (hfin : ((clsOf ci).2.1 j).2.2.2 = false) (hd : parseFieldDescriptor ((clsOf ci).2.1 j).2.2.1 = some ty) (hfit : ∀ q, narrow ty (.ref q) = .ref q ∧ fits ty (.ref q) = true) (k : V y (pc + 3) L st (mSetR m a j (some b)) K) : V y pc L (.ref b :: .ref a :: st) m K :=
  V.lift (m2 := (mSetR m a j (some b))) (fun _ _ w => Wt.wr w rfl rfl rfl (fun h => h.t.t) (fun _ _ _ _ _ _ _ _ _ _ _ _ _ _ _ _ _ _ _ ad C Y h k => va_put C.1 C.2.1 C.ts (inM hc) (tyOf ci) (tyOf_ok hc) (nmOf hc) C.own C.kk Y.1 Y.2.1 Y.2.2.2 a (wof_obj h.t.ref hs hc) (clsOf_at hc) j hj (C.w hw) (fun _ q => q) hfin hd (hfit _).1 (hfit _).2 (by rw [celF_len]; exact hj) d (fun H1 locs1 hP hD hS => k H1 locs1 (Y.putR (v := some b) hs hc hf (fun _ q => by cases q; exact h.ref) hP hD hS)))) k
theorem r_putRN0 {i ci j a : Nat} {ty : FieldType} (d : decode y.2.1 pc = .ok (.putfield i, 3)) (hs : (mS m a).1 = ci) (hc : ci < 13) (hj : j < (clsOf ci).2.2) (hf : fdI ci j = false) (hw : Cond.fieldLink y.1.cls i ((clsOf ci).2.1 j).1 ((clsOf ci).2.1 j).2.1 ((clsOf ci).2.1 j).2.2.1 ∈ wsL_law) (hfin : ((clsOf ci).2.1 j).2.2.2 = false) (hd : parseFieldDescriptor ((clsOf ci).2.1 j).2.2.1 = some ty) (hfit : narrow ty .null = .null ∧ fits ty .null = true) (k : V y (pc + 3) L st (mSetR m a j none) K) : V y pc L (.null :: .ref a :: st) m K :=
  V.lift (m2 := (mSetR m a j none)) (fun _ _ w => Wt.wr w rfl rfl rfl (fun h => h.t.t) (fun _ _ _ _ _ _ _ _ _ _ _ _ _ _ _ _ _ _ _ ad C Y h k => va_put C.1 C.2.1 C.ts (inM hc) (tyOf ci) (tyOf_ok hc) (nmOf hc) C.own C.kk Y.1 Y.2.1 Y.2.2.2 a (wof_obj h.t.ref hs hc) (clsOf_at hc) j hj (C.w hw) (fun _ q => q) hfin hd hfit.1 hfit.2 (by rw [celF_len]; exact hj) d (fun H1 locs1 hP hD hS => k H1 locs1 (Y.putR (v := none) hs hc hf (fun _ q => by cases q) hP hD hS)))) k
theorem r_putRF {i ci j a b : Nat} {ty : FieldType} (d : decode y.2.1 pc = .ok (.putfield i, 3)) (hs : (mS m a).1 = ci) (hc : ci < 13) (hj : j < (clsOf ci).2.2) (hf : fdI ci j = false) (hw : Cond.fieldLink y.1.cls i ((clsOf ci).2.1 j).1 ((clsOf ci).2.1 j).2.1 ((clsOf ci).2.1 j).2.2.1 ∈ wsL_law) (hfin : ((clsOf ci).2.1 j).2.2.2 = true) (hini : y.1.name = "<init>") (hdecl : ((clsOf ci).2.1 j).1 = y.1.cls) (hd : parseFieldDescriptor ((clsOf ci).2.1 j).2.2.1 = some ty) (hfit : ∀ q, narrow ty (.ref q) = .ref q ∧ fits ty (.ref q) = true) (k : V y (pc + 3) L st (mSetR m a j (some b)) K) : V y pc L (.ref b :: .ref a :: st) m K :=
  V.lift (m2 := (mSetR m a j (some b))) (fun _ _ w => Wt.wr w rfl rfl rfl (fun h => h.t.t) (fun _ _ _ _ _ _ _ _ _ _ _ _ _ _ _ _ _ _ _ ad C Y h k => va_putF C.1 C.2.1 C.ts (inM hc) (tyOf ci) (tyOf_ok hc) (nmOf hc) C.own C.kk Y.1 Y.2.1 Y.2.2.2 a (wof_obj h.t.ref hs hc) (clsOf_at hc) j hj (C.w hw) (fun _ q => q) hfin (C.nm.trans hini) hdecl hd (hfit _).1 (hfit _).2 (by rw [celF_len]; exact hj) d (fun H1 locs1 hP hD hS => k H1 locs1 (Y.putR (v := some b) hs hc hf (fun _ q => by cases q; exact h.ref) hP hD hS)))) k
theorem r_putRF0 {i ci j a : Nat} {ty : FieldType} (d : decode y.2.1 pc = .ok (.putfield i, 3)) (hs : (mS m a).1 = ci) (hc : ci < 13) (hj : j < (clsOf ci).2.2) (hf : fdI ci j = false) (hw : Cond.fieldLink y.1.cls i ((clsOf ci).2.1 j).1 ((clsOf ci).2.1 j).2.1 ((clsOf ci).2.1 j).2.2.1 ∈ wsL_law) (hfin : ((clsOf ci).2.1 j).2.2.2 = true) (hini : y.1.name = "<init>") (hdecl : ((clsOf ci).2.1 j).1 = y.1.cls) (hd : parseFieldDescriptor ((clsOf ci).2.1 j).2.2.1 = some ty) (hfit : narrow ty .null = .null ∧ fits ty .null = true) (k : V y (pc + 3) L st (mSetR m a j none) K) : V y pc L (.null :: .ref a :: st) m K :=
  V.lift (m2 := (mSetR m a j none)) (fun _ _ w => Wt.wr w rfl rfl rfl (fun h => h.t.t) (fun _ _ _ _ _ _ _ _ _ _ _ _ _ _ _ _ _ _ _ ad C Y h k => va_putF C.1 C.2.1 C.ts (inM hc) (tyOf ci) (tyOf_ok hc) (nmOf hc) C.own C.kk Y.1 Y.2.1 Y.2.2.2 a (wof_obj h.t.ref hs hc) (clsOf_at hc) j hj (C.w hw) (fun _ q => q) hfin (C.nm.trans hini) hdecl hd hfit.1 hfit.2 (by rw [celF_len]; exact hj) d (fun H1 locs1 hP hD hS => k H1 locs1 (Y.putR (v := none) hs hc hf (fun _ q => by cases q) hP hD hS)))) k
theorem wof_ai {ad : Nat → Nat} {dA : Nat → ClassId} {a kd n : Nat} (ha : a < mN m) (hs : mS m a = (kd, n)) (hc : kd = 13 ∨ kd = 14) : (wof ad dA m)[a]? = some (ad a, .inl (dA kd, n, .inl (mI m a))) := by rw [wof_get ha, cel_int hs hc]
theorem wof_ar {ad : Nat → Nat} {dA : Nat → ClassId} {a kd n : Nat} (ha : a < mN m) (hs : mS m a = (kd, n)) (hc : 15 ≤ kd) : (wof ad dA m)[a]? = some (ad a, .inl (dA kd, n, .inr (.inr (.inr (.inr (fun j => (mR m a j).map ad)))))) := by rw [wof_get ha, cel_ref hs hc]
theorem r_iald {a n : Nat} {i : Int32} (d : decode y.2.1 pc = .ok (.iaload, 1)) (hs : mS m a = (13, n)) (hi : vp_in i n) (k : V y (pc + 1) L (.int (mI m a i.toNatClampNeg) :: st) m K) : V y pc L (.int i :: .ref a :: st) m K :=
  V.lift (fun _ _ w => Wt.rd w (fun _ h => okS.ci h.t.t) (fun _ _ _ _ _ _ _ _ _ _ _ _ _ _ _ _ _ _ _ ad C Y h k => va_iald C.1 C.2.1 C.kk Y.1 a 0 (wof_ai h.t.ref hs (Or.inl rfl)) rfl hi d k)) k
theorem r_zald {a n : Nat} {i : Int32} (d : decode y.2.1 pc = .ok (.baload, 1)) (hs : mS m a = (14, n)) (hi : vp_in i n) (k : V y (pc + 1) L (.int (mI m a i.toNatClampNeg) :: st) m K) : V y pc L (.int i :: .ref a :: st) m K :=
  V.lift (fun _ _ w => Wt.rd w (fun _ h => okS.ci h.t.t) (fun _ _ _ _ _ _ _ _ _ _ _ _ _ _ _ _ _ _ _ ad C Y h k => va_zald C.1 C.2.1 C.kk Y.1 a 1 (wof_ai h.t.ref hs (Or.inr rfl)) rfl hi d k)) k
theorem r_alen {a n : Nat} {v : Int32} (d : decode y.2.1 pc = .ok (.arraylength, 1)) (hs : mS m a = (13, n)) (hv : Int32.ofNat n = v) (k : V y (pc + 1) L (.int v :: st) m K) : V y pc L (.ref a :: st) m K :=
  V.lift (fun _ _ w => Wt.rd w (fun _ h => okS.ci h.t) (fun _ _ _ _ _ _ _ _ _ _ _ _ _ _ _ _ _ _ _ ad C Y h k => va_alen C.1 C.2.1 C.kk Y.1 a 0 (wof_ai h.ref hs (Or.inl rfl)) rfl hv d k)) k
theorem r_iast {a n : Nat} {i v : Int32} (d : decode y.2.1 pc = .ok (.iastore, 1)) (hs : mS m a = (13, n)) (hi : vp_in i n) (k : V y (pc + 1) L st (mSetI m a i.toNatClampNeg v) K) : V y pc L (.int v :: .int i :: .ref a :: st) m K :=
  V.lift (m2 := (mSetI m a i.toNatClampNeg v)) (fun _ _ w => Wt.wr w rfl rfl rfl (fun h => h.t.t.t) (fun _ _ _ _ _ _ _ _ _ _ _ _ _ _ _ _ _ _ _ ad C Y h k => va_iast C.1 C.2.1 C.kk Y.1 Y.2.1 Y.2.2.2 a 0 (wof_ai h.t.t.ref hs (Or.inl rfl)) rfl hi d (fun H1 locs1 hP hD hS => k H1 locs1 (by rw [wof_astI hs (Or.inl rfl)] at hP hD; exact ⟨hP, hD, Y.2.2.1, hS⟩)))) k
theorem r_zast {a n : Nat} {i v : Int32} (d : decode y.2.1 pc = .ok (.bastore, 1)) (hs : mS m a = (14, n)) (hi : vp_in i n) (hv : vp_nar .boolean v = v) (k : V y (pc + 1) L st (mSetI m a i.toNatClampNeg v) K) : V y pc L (.int v :: .int i :: .ref a :: st) m K :=
  V.lift (m2 := (mSetI m a i.toNatClampNeg v)) (fun _ _ w => Wt.wr w rfl rfl rfl (fun h => h.t.t.t) (fun _ _ _ _ _ _ _ _ _ _ _ _ _ _ _ _ _ _ _ ad C Y h k => va_zast C.1 C.2.1 C.kk Y.1 Y.2.1 Y.2.2.2 a 1 (wof_ai h.t.t.ref hs (Or.inr rfl)) rfl hi d (fun H1 locs1 hP hD hS => k H1 locs1 (by rw [hv, wof_astI hs (Or.inr rfl)] at hP hD; exact ⟨hP, hD, Y.2.2.1, hS⟩)))) k
theorem tyk_ref {kd : Nat} (h : 15 ≤ kd) : (tyk kd).isReference = true := by
  rcases (show kd = 15 ∨ kd = 16 ∨ kd = 17 ∨ kd = 18 ∨ 19 ≤ kd by omega) with rfl | rfl | rfl | rfl | q
  · rfl
  · rfl
  · rfl
  · rfl
  · unfold tyk
    split <;> first | rfl | omega
theorem r_aald {a kd n : Nat} {i : Int32} {r : Option Nat} (d : decode y.2.1 pc = .ok (.aaload, 1)) (hs : mS m a = (kd, n)) (h1 : 15 ≤ kd) (h2 : kd < 20) (hi : vp_in i n) (hr : mR m a i.toNatClampNeg = r) (k : V y (pc + 1) L (va_rf r :: st) m K) : V y pc L (.int i :: .ref a :: st) m K := by
  subst hr
  refine V.lift (fun _ _ w => Wt.rd w (fun q h => okS.c (okv_rf q h.t.ref) h.t.t) (fun _ _ _ _ _ _ _ _ _ _ _ _ _ _ _ _ _ _ _ ad C Y h k => ?_)) k
  have hlt : i.toNatClampNeg < n := Nat.not_le.mp fun q => hi (Or.inr q)
  refine W.aald (v := va_rf ((mR m a i.toNatClampNeg).map ad)) (ty := tyk kd) C.1 C.2.1 (Y.1 a _ (wof_ar h.t.ref hs h1)) ((C.kk.2 (kd - 13) _ (tyl_at (by omega) h2)).1 n (fun j => va_rf ((mR m a j).map ad))) (tyk_ref h1) (fun q => by cases q) (by show ¬ (i < 0 ∨ (arrV _ _ _).slots.size ≤ _); rw [arrV_size]; exact hi) (by show (arrV _ _ _).slots[_]? = _; rw [arrV_read _ _ hlt]) rfl rfl d ?_
  have e : shv ad (va_rf (mR m a i.toNatClampNeg)) = va_rf ((mR m a i.toNatClampNeg).map ad) := shv_rf ad _
  rw [← e]
  exact k
def clsKd (kd : Nat) : Nat := match kd with
  | 15 => 1
  | 16 => 2
  | 17 => 6
  | _ => 7
theorem clsKd_ok {kd : Nat} (h1 : 15 ≤ kd) (h2 : kd < 19) : clsKd kd < 13 ∧ tyk kd = .object (clsOf (clsKd kd)).1 := by
  rcases (show kd = 15 ∨ kd = 16 ∨ kd = 17 ∨ kd = 18 by omega) with rfl | rfl | rfl | rfl <;> exact ⟨by decide, rfl⟩
theorem r_aast {a b kd n : Nat} {i : Int32} (d : decode y.2.1 pc = .ok (.aastore, 1)) (hs : mS m a = (kd, n)) (h1 : 15 ≤ kd) (h2 : kd < 19) (hb : (mS m b).1 = clsKd kd) (hi : vp_in i n) (k : V y (pc + 1) L st (mSetR m a i.toNatClampNeg (some b)) K) : V y pc L (.ref b :: .int i :: .ref a :: st) m K :=
  V.lift (m2 := (mSetR m a i.toNatClampNeg (some b))) (fun _ _ w => Wt.wr w rfl rfl rfl (fun h => h.t.t.t) (fun _ _ _ _ _ _ _ _ _ _ _ _ _ _ _ _ _ _ _ ad C Y h k => va_astq C.1 C.2.1 C.kk Y.1 Y.2.1 Y.2.2.2 a (kd - 13) b (clsKd kd) (wof_ar h.t.t.ref hs h1) (by rw [tyl_at (by omega) (by omega), (clsKd_ok h1 h2).2]) (wof_obj h.ref hb (clsKd_ok h1 h2).1) (clsOf_at (clsKd_ok h1 h2).1) hi d (fun H1 locs1 hP hD hS => k H1 locs1 (by rw [wof_astR hs h1] at hP hD; exact ⟨hP, hD, wfm_setR Y.2.2.1 (fun _ q => by cases q; exact h.ref), hS⟩)))) k
end Rows2
