/-! THE LAW: its row of one long beside the memory -/
abbrev eOut (cL : ClassId) (v : Int64) : va_E := .inl (cL, 1, .inr (.inl (fun _ => v)))
def Wx (ad : Nat → Nat) (dA : Nat → ClassId) (m : Mm) (q : Nat) (cL : ClassId) (v : Int64) : va_W := wof ad dA m ++ [(q, eOut cL v)]
theorem Wx_at {ad : Nat → Nat} {dA : Nat → ClassId} {m : Mm} {q : Nat} {cL : ClassId} {v : Int64} : (Wx ad dA m q cL v)[mN m]? = some (q, eOut cL v) := by
  unfold Wx
  rw [List.getElem?_append_right (by rw [wof_len]; exact Nat.le_refl _), wof_len, Nat.sub_self]
  rfl
theorem Wx_lt {ad : Nat → Nat} {dA : Nat → ClassId} {m : Mm} {q : Nat} {cL : ClassId} {v : Int64} {k : Nat} {z : Nat × va_E} (h : (wof ad dA m)[k]? = some z) : (Wx ad dA m q cL v)[k]? = some z := by
  unfold Wx
  rw [List.getElem?_append_left (List.getElem?_eq_some_iff.mp h).1]
  exact h
theorem Wx_set {ad : Nat → Nat} {dA : Nat → ClassId} {m : Mm} {q : Nat} {cL : ClassId} {v : Int64} {e : va_E} : (Wx ad dA m q cL v).set (mN m) (q, e) = wof ad dA m ++ [(q, e)] := by
  unfold Wx
  rw [List.set_append_right _ _ (by rw [wof_len]; exact Nat.le_refl _), wof_len, Nat.sub_self]
  rfl
theorem one_at {q k : Nat} {e : va_E} {z : Nat × va_E} (h : [(q, e)][k]? = some z) : k = 0 ∧ z = (q, e) := by
  have h1 := (List.getElem?_eq_some_iff.mp h).1
  have h1 : k < 1 := h1
  obtain rfl : k = 0 := by omega
  exact ⟨rfl, (Option.some.inj h).symm⟩
theorem cell_upd {cL : ClassId} {v w : Int64} : vp_cell cL (1, .inr (.inl (vp_updL (fun _ => v) 0 w))) = vp_cell cL (1, .inr (.inl (fun _ => w))) := by
  rw [vp_cell_l, vp_cell_l]
  unfold arrV
  congr 1
/-- the row is written -/
theorem Wx_put {D : va_G} {dA : Nat → ClassId} {A : Nat → Prop} {ad : Nat → Nat} {m : Mm} {q : Nat} {cL : ClassId} {v w : Int64} {H : Heap} (hP : va_P D vwCl ((Wx ad dA m q cL v).set (mN m) (q, .inl (cL, 1, .inr (.inl (vp_updL (fun _ => v) 0 w))))) H) (hD : va_D A (Wx ad dA m q cL v)) : va_P D vwCl (Wx ad dA m q cL w) H ∧ va_D A (Wx ad dA m q cL w) := by
  rw [Wx_set] at hP
  refine ⟨va_P.app (fun k z hz => hP k z ?_) (fun k z hz => ?_), ?_⟩
  · rw [List.getElem?_append_left (List.getElem?_eq_some_iff.mp hz).1]
    exact hz
  · obtain ⟨-, rfl⟩ := one_at hz
    have h9 := hP (mN m) (q, .inl (cL, 1, .inr (.inl (vp_updL (fun _ => v) 0 w)))) (by rw [List.getElem?_append_right (by rw [wof_len]; exact Nat.le_refl _), wof_len, Nat.sub_self]; rfl)
    have h9 : H[q]? = some (vp_cell cL (1, .inr (.inl (vp_updL (fun _ => v) 0 w)))) := h9
    show H[q]? = some (vp_cell cL (1, .inr (.inl (fun _ => w))))
    rw [h9, cell_upd]
  · have := hD.set (p := mN m) (e := eOut cL w) Wx_at
    rw [Wx_set] at this
    exact this
/-- the heap holds the memory, and the row -/
def Lx (D : va_G) (dA : Nat → ClassId) (A : Nat → Prop) (ad : Nat → Nat) (m : Mm) (q : Nat) (cL : ClassId) (v : Int64) (s : State) (H : Heap) (locs : List Loc) : Prop := va_P D vwCl (Wx ad dA m q cL v) H ∧ va_D A (Wx ad dA m q cL v) ∧ wfm m ∧ va_S A s.heap H locs
theorem Lx.dy {D : va_G} {dA : Nat → ClassId} {A : Nat → Prop} {ad : Nat → Nat} {m : Mm} {q : Nat} {cL : ClassId} {v : Int64} {s : State} {H : Heap} {locs : List Loc} (h : Lx D dA A ad m q cL v s H locs) : Dy D dA A ad m s H locs :=
  ⟨fun k z hz => h.1 k z (Wx_lt hz), ⟨fun i j x y hx hy e => h.2.1.1 i j x y (Wx_lt hx) (Wx_lt hy) e, fun k z hz => h.2.1.2 k z (Wx_lt hz)⟩, h.2.2.1, h.2.2.2⟩
/-- the row lies apart -/
theorem Wx_off {D : va_G} {dA : Nat → ClassId} {A : Nat → Prop} {ad : Nat → Nat} {m : Mm} {q : Nat} {cL : ClassId} {v : Int64} {H : Heap} (hP : va_P D vwCl (Wx ad dA m q cL v) H) (hD : va_D A (Wx ad dA m q cL v)) : q < H.size ∧ ¬ va_A (wof ad dA m) H.size q := by
  have hl : q < H.size := (hP _ _ Wx_at).lt
  refine ⟨hl, fun h => ?_⟩
  rcases h with ⟨k, e, h⟩ | h
  · have hk := (List.getElem?_eq_some_iff.mp h).1
    rw [wof_len] at hk
    have := hD.1 k (mN m) _ _ (Wx_lt h) Wx_at rfl
    omega
  · omega
/-- behind a call that does not know the row -/
theorem Wx_call {D : va_G} {dA : Nat → ClassId} {A : Nat → Prop} {ad ad' : Nat → Nat} {m m1 : Mm} {q : Nat} {cL : ClassId} {v : Int64} {H H1 : Heap} (hP : va_P D vwCl (Wx ad dA m q cL v) H) (hD : va_D A (Wx ad dA m q cL v)) (hA : ∀ z, va_A (wof ad dA m) H.size z → A z) (hk : ∀ z : Nat, z < H.size → ¬ va_A (wof ad dA m) H.size z → H1[z]? = H[z]?) (hP1 : va_P D vwCl (wof ad' dA m1) H1) (hD1 : va_D (va_A (wof ad dA m) H.size) (wof ad' dA m1)) : va_P D vwCl (Wx ad' dA m1 q cL v) H1 ∧ va_D A (Wx ad' dA m1 q cL v) := by
  obtain ⟨o1, o2⟩ := Wx_off hP hD
  refine ⟨va_P.app hP1 (fun k z hz => ?_), va_D.app (hD1.weaken (fun _ _ _ h => hA _ h)) ⟨fun i j x y hx hy _ => ?_, fun k z hz => ?_⟩ (fun i j x y hx hy e => ?_)⟩
  · rw [(one_at hz).2]
    exact (hP _ _ Wx_at).kept (hk q o1 o2)
  · rw [(one_at hx).1, (one_at hy).1]
  · rw [(one_at hz).2]
    exact hD.2 _ _ Wx_at
  · rw [(one_at hy).2] at e
    have h1 := hD1.2 i x hx
    rw [e] at h1
    exact o2 h1
/-- what the tables say of exceptions -/
def Xst (U : State) : Prop := ∀ E, E ∈ [eIA, eIS, eIO] → ∀ F, F ∈ [eIA, eIS, eIO] → E ≠ F → va_Nc E F U
theorem Xst.moved {u U : State} (hvm : u.vm.Alike U.vm) (h : Xst u) : Xst U := fun E hE F hF ne => va_Nc.moved hvm (h E hE F hF ne)
/-- a method of the law: its name, code, locals, handlers; frames and locals that its calls may take -/
abbrev Hi : Type := MethodName × ByteArray × Nat × List (Nat × Nat × Nat × Nat) × Nat × Nat
def hiW (y : Hi) : List Cond := .codeWith y.1 y.2.1 y.2.2.1 (some .int) y.2.2.2.1 :: wsL_law
def hiR (y : Hi) (m m' : Mm) : Room := { frames := y.2.2.2.2.1, cells := mC m' - mC m, slots := mZ m' - mZ m, locals := y.2.2.2.2.2 }
def PcH (D : va_G) (dA : Nat → ClassId) (ad : Nat → Nat) (m : Mm) (q : Nat) (cL : ClassId) (v : Int64) (js : List Int32) (sz : Nat) : Array Value → State → Prop := fun a U =>
  a = (.ref (ad 0) :: (js.map Value.int ++ [.ref q])).toArray ∧ U.heap.size = sz ∧ va_P D vwCl (Wx ad dA m q cL v) U.heap ∧ va_K D vwCl (tyl dA) U ∧ va_K D vwCl [(cL, .long)] U ∧ va_D (fun _ => True) (Wx ad dA m q cL v) ∧ wfm m ∧ Nst U ∧ Xst U ∧ Str U ∧ Thr (va_A (Wx ad dA m q cL v) sz) U U.heap ∧ St m
def QcH (D : va_G) (dA : Nat → ClassId) (A : Nat → Prop) (ad : Nat → Nat) (m m' : Mm) (q : Nat) (cL : ClassId) (k : Nat) (v' : Int64) : Array Value → State → Outcome → State → Prop := fun _ st oc t =>
  oc = .returned (some (.int (nn k))) ∧ ∃ ad' : Nat → Nat, (∀ j, j < mN m → ad' j = ad j) ∧ va_P D vwCl (Wx ad' dA m' q cL v') t.heap ∧ va_D A (Wx ad' dA m' q cL v') ∧ wfm m' ∧ va_F A st t
theorem PcH.blind {D : va_G} {dA : Nat → ClassId} {ad : Nat → Nat} {m : Mm} {q : Nat} {cL : ClassId} {v : Int64} {js : List Int32} {sz : Nat} : FrameBlind (PcH D dA ad m q cL v js sz) := fun a U g mk w => by
  obtain ⟨q1, q2, q3, q4, q5, q6, q7, q8, q9, q10, q11, q12⟩ := w
  exact ⟨q1, q2, q3, va_K.moved (u := U) (U := U.calling g mk a) (Vm.Alike.refl U.vm) q4, va_K.moved (u := U) (U := U.calling g mk a) (Vm.Alike.refl U.vm) q5, q6, q7, Nst.same (u := U) (U := U.calling g mk a) rfl q8, Xst.moved (u := U) (U := U.calling g mk a) (Vm.Alike.refl U.vm) q9, Str.same (u := U) (U := U.calling g mk a) rfl q10, Thr.go (s := U) (U := U.calling g mk a) q11 (Vm.Alike.refl U.vm) (fun _ _ _ => rfl) (fun _ q => q), q12⟩
/-- from the end of the loads on, at pc pv: what is called, and where it goes on -/
def HiB (y : Hi) (y2 : Mi) (n pv pe : Nat) : Prop := ∃ (idx : Nat) (off : Int), decode y.2.1 pv = .ok (.invokevirtual idx, 3) ∧ decode y.2.1 (pv + 3) = .ok (.i2l, 1) ∧ decode y.2.1 (pv + 4) = .ok (.lastore, 1) ∧ decode y.2.1 (pv + 5) = .ok (.goto off, 3) ∧ ((pv + 5 : Nat) : Int) + off = (pe : Int) ∧ decode y.2.1 pe = .ok (.iconst 0, 1) ∧ decode y.2.1 (pe + 1) = .ok (.ireturn, 1) ∧ CalV y2 n ∧ Cond.methodLink RL idx y2.1 ∈ wsL_law ∧ y2.1.cls = RX11 ∧ y2.2.2.2.2.1 + 1 ≤ y.2.2.2.2.1 ∧ 8 + (y2.2.2.1 + 11) + y2.2.2.2.2.2 ≤ y.2.2.2.2.2
/-- the loads -/
def HiL (y : Hi) (n pv : Nat) : Prop := ∀ {p : Program} {l : Launch} {e : Env} {R : Room} {s : State} {mid : MethodId} {args : Array Value} {below : List Frame} {meth : Method} {c : Code} {H : Heap} {locs : List Loc} {cells slots : Nat} {Q : State → Prop} {ls : Array Slot} (x q : Nat) (js : List Int32), js.length = n → p.tables.exec = Jvm.exec → c.code = y.2.1 → lv_has ls y.2.2.1 (lv_args 0 (.ref x :: (js.map Value.int ++ [.ref q]))) →
  W p l e R s mid args below meth c H locs cells slots Q (F0 mid pv ls ((js.map Value.int).reverse ++ [.ref x, .int 0, .ref q])) → W p l e R s mid args below meth c H locs cells slots Q (F0 mid 0 ls [])
/-- a handler at h answers k -/
def HiH (y : Hi) (h k : Nat) : Prop := ∀ {p : Program} {l : Launch} {e : Env} {R : Room} {s : State} {mid : MethodId} {args : Array Value} {below : List Frame} {meth : Method} {c : Code} {H : Heap} {locs : List Loc} {cells slots : Nat} {Q : State → Prop} {ls : Array Slot} {lv : List (Nat × Value)} (q : Nat), p.tables.exec = Jvm.exec → c.code = y.2.1 → lv_has ls y.2.2.1 lv →
  (∀ (pr : Nat) (ls' : Array Slot), decode y.2.1 pr = .ok (.ireturn, 1) → W p l e R s mid args below meth c H locs cells slots Q (F0 mid pr ls' [.int (nn k)])) → W p l e R s mid args below meth c H locs cells slots Q (F0 mid h ls [.ref q])
/-- the k-th exception goes to a handler that answers k + 1 -/
def HiX (y : Hi) (exs : List String) (pv : Nat) : Prop := ∀ (k : Nat) (E : String), exs[k]? = some E → E ∈ [eIA, eIS, eIO] ∧ Cond.castable E E ∈ tables_1 ∧ ∃ (pre : List ExceptionTableEntry) (x : ExceptionTableEntry) (suf : List ExceptionTableEntry), tableOf y.2.2.2.1 = pre ++ x :: suf ∧ (∀ z ∈ pre, z.catchType ≠ 0 ∧ ∃ nm : String, nm ∈ [eIA, eIS, eIO] ∧ E ≠ nm ∧ Cond.classLink RL z.catchType nm ∈ wsL_law) ∧ covers x pv = true ∧ x.catchType ≠ 0 ∧ Cond.classLink RL x.catchType E ∈ wsL_law ∧ HiH y x.handlerPc (k + 1)
theorem hi_ct {y : Hi} {y2 : Mi} {js : List Int32} {exs : List String} {r : Nat × Int32} {m m' : Mm} {pv pe : Nat} (hpl : plainName y.1.cls = true) (hown : y.1.cls = RL) (hml : js.length + 2 ≤ y.2.2.1) (hB : HiB y y2 js.length pv pe) (hLd : HiL y js.length pv) (hX : HiX y exs pv) (hr : r.1 ≤ exs.length) (ct : Ct y2 (.ref 0 :: js.map Value.int) m (outc exs r) m')
    {l : Launch} (hst : l.stackTraces = false) (D : va_G) (dA : Nat → ClassId) (ad : Nat → Nat) (q : Nat) (cL : ClassId) (v : Int64) (sz : Nat) :
    vx_Met l y.1 (hiW y) (hiR y m m') (PcH D dA ad m q cL v js sz) (QcH D dA (va_A (Wx ad dA m q cL v) sz) ad m m' q cL r.1 (if r.1 = 0 then r.2.toInt64 else v)) (fun _ _ _ => False) (mC m' - mC m) (mZ m' - mZ m) (va_A (Wx ad dA m q cL v) sz) := by
  refine vx_ofWH (cc := y.2.1) (maxL := y.2.2.1) (ret := some .int) (hh := y.2.2.2.1) (ws' := wsL_law) hpl rfl ?_
  intro p e s mid av below meth c s₁ B hmL hP
  obtain ⟨rfl, hsz, hP0, hK, hKL, hD0, hw, hN, hXs, hS, hT, hst0⟩ := hP
  have hts := atoms_spec (ws := hiW y) B.pre
  have htab : c.exceptionTable.toList = tableOf y.2.2.2.1 := vx_table (x := y.1) B (hts _ List.mem_cons_self)
  have hx := B.exec
  have hb := B.bytes
  have hown' : s.vm.findClass RL = some mid.cls := by rw [← hown]; exact findClass_of_methodNamed B.named
  have hwl : ∀ w, w ∈ wsL_law → w.before (.ref (ad 0) :: (js.map Value.int ++ [.ref q])).toArray s = true := fun w h => hts w (List.mem_cons_of_mem _ h)
  obtain ⟨A, hA⟩ : ∃ A, A = va_A (Wx ad dA m q cL v) sz := ⟨_, rfl⟩
  have hD : va_D A (Wx ad dA m q cL v) := by rw [hA]; exact hD0.self
  have hAg : ∀ z, s.heap.size ≤ z → A z := fun z h => by rw [hA]; exact Or.inr (by rw [← hsz]; exact h)
  have hAw : ∀ z, va_A (wof ad dA m) s.heap.size z → A z := fun z h => by
    rcases h with ⟨k, e, h⟩ | h
    · exact hD.2 k (z, e) (Wx_lt h)
    · exact hAg z h
  rw [← hA] at hT ⊢
  have hS0 : va_S A s.heap s.heap [] := va_S.rf
  have hl := lv_entry (.ref (ad 0) :: (js.map Value.int ++ [.ref q])) (n := y.2.2.1) (by
    have e : ∀ (zs : List Value), (∀ z ∈ zs, z.category = 1) → (lg_sl zs).length = zs.length := by
      intro zs
      induction zs with
      | nil => intro _; rfl
      | cons z zs ih =>
        intro hz
        have h1 := ih (fun w h => hz w (List.mem_cons_of_mem _ h))
        have hc := hz z List.mem_cons_self
        unfold lg_sl at h1 ⊢
        rw [List.flatMap_cons, if_neg (by rw [hc]; decide), List.length_append, h1]
        simp only [List.length_nil, List.length_cons]
        omega
    rw [e _ (fun z hz => by
      rcases List.mem_cons.mp hz with h | h
      · rw [h]; rfl
      · rcases List.mem_append.mp h with h | h
        · obtain ⟨j, -, rfl⟩ := List.mem_map.mp h
          rfl
        · rw [List.mem_singleton.mp h]
          rfl)]
    simp only [List.length_cons, List.length_append, List.length_map, List.length_nil]
    omega)
  rw [lg_entry_eq]
  generalize (lg_sl (.ref (ad 0) :: (js.map Value.int ++ [.ref q])) ++ List.replicate (y.2.2.1 - (lg_sl (.ref (ad 0) :: (js.map Value.int ++ [.ref q]))).length) Slot.unset).toArray = ls at hl ⊢
  refine hLd (ad 0) q js rfl hx hb hl ?_
  obtain ⟨idx, off, dv, d3, d4, d5, ht5, de, de1, hcal, hlk, hcl, hR1, hR2⟩ := hB
  have hN0 : 0 < mN m := Nat.lt_of_lt_of_le (by decide : 0 < 714) hst0.2.2
  have hLx : Lx D dA A ad m q cL v s s.heap [] := ⟨hP0, hD, hw, hS0⟩
  have hPc : ∀ U : State, U.heap = s.heap → s.WarmedH U.vm → PcM D dA ad m (.ref 0 :: js.map Value.int) s.heap.size ((.ref 0 :: js.map Value.int).map (shv ad)).toArray U := fun U hU hW => by
    have Y := hLx.dy
    refine ⟨rfl, by rw [hU], by rw [hU]; exact Y.1, va_K.moved hW.alike hK, Y.2.1.weaken (fun _ _ _ _ => trivial), hw, hN.warm hW, hS.warm hW, by rw [hU]; exact hT.go hW.alike (fun _ _ _ => rfl) hAw, ?_⟩
    intro z hz
    rcases List.mem_cons.mp hz with h | h
    · rw [h]
      exact hN0
    · obtain ⟨j, -, rfl⟩ := List.mem_map.mp h
      exact trivial
  have eA : ((.ref 0 :: js.map Value.int : List Value)).map (shv ad) = .ref (ad 0) :: js.map Value.int := by
    rw [List.map_cons]
    refine congrArg (fun z => Value.ref (ad 0) :: z) ?_
    rw [List.map_map]
    exact List.map_congr_left (fun _ _ => rfl)
  have hrecv : ∃ cell : Cell, s.heap[ad 0]? = some cell ∧ cell.vm.isStatics = false ∧ s.vm.findClass y2.1.cls = some cell.cls := by
    rw [hcl]
    exact va_recv (q := clsOf 11) hK hLx.dy.1 (clsOf_at (by decide)) (wof_obj hN0 (ci := 11) (by rw [hst0.1 0 (by decide)]; rfl) (by decide))
  have cb : CallB (headSpec (hiW y) (hiR y m m')).room s (.ref (ad 0) :: (js.map Value.int ++ [.ref q])).toArray RL idx y2.1 y2.2.1 y2.2.2.1 y2.2.2.2.1 (miW y2) (rmM y2 m m') (mC m' - mC m) (mZ m' - mZ m) js.length := by
    refine callB_of (ws' := wsL_law) js.length hts (fun w hw0 => ?_) rfl rfl rfl (hwl _ hcal.1.1) (hwl _ hlk) hcal.1.2.2 ⟨hR1, hR2⟩
    have h1 : w ∈ wsL_law := by
      rcases List.mem_cons.mp hw0 with e | e
      · rw [e]; exact hcal.1.2.1
      · exact e
    exact ⟨List.mem_cons_of_mem _ h1, good_of_word (List.all_eq_true.mp law_good w h1)⟩
  have run := vx_runV (p := p) (l := l) (e := e) (R := (headSpec (hiW y) (hiR y m m')).room) (s := s) (m := mid) (args := (.ref (ad 0) :: (js.map Value.int ++ [.ref q])).toArray) (below := below) (meth := meth) (c := c) (H := s.heap) (locs := []) (cells := 0) (slots := 0) (g := F0 mid pv ls ((js.map Value.int).reverse ++ [.ref (ad 0), .int 0, .ref q])) (b := ad 0) (As := js.map Value.int) (rest := [.int 0, .ref q]) (C := y2.1.cls) (cc := y.2.1) (nL := y.2.2.1)
    ⟨hx, hb, hmL, hown', hts⟩ (ct.2.2.2 l D dA ad s.heap.size hst) ⟨cb, hwl _ hcal.2.1, hwl _ hcal.2.2⟩ ⟨PcM.blind, hrecv, fun U hU hW => by
      have := hPc U hU hW
      rw [eA] at this
      exact this⟩ rfl (by rw [List.length_map]) hl.1 rfl (lv_room (Nat.le_of_ble_eq_true rfl)) dv ⟨by show 0 + (mC m' - mC m) ≤ mC m' - mC m; omega, by show 0 + (mZ m' - mZ m) ≤ mZ m' - mZ m; omega⟩
  intro T hT0 XS
  rcases run T hT0 XS with ⟨v', st₀, t, T', L1, h0, X', hL1, e1, e2, ⟨v2, ad', e3, e4, e5, e6, e7, e8, e9, hF⟩, stp⟩ | ⟨q9, st₀, t, T', L1, E1, ce, h0, X', hL1, e1, e2, ⟨ad', e3, e5, e6, e7, e8, hF⟩, hce, hcv, hcl9, stp⟩
  · -- it returned
    have hr0 : r.1 = 0 := by
      unfold outc at e3
      by_cases w : r.1 = 0
      · exact w
      · rw [if_neg w] at e3
        cases e3
    have ev : v2 = some (.int r.2) := by
      unfold outc at e3
      rw [if_pos hr0] at e3
      exact (Sum.inl.inj e3).symm
    rw [ev] at e4
    cases e4
    obtain ⟨hz1, hk1⟩ := hF
    rw [h0] at hz1 hk1
    obtain ⟨P1, D1⟩ := Wx_call hP0 hD hAw (H1 := T'.heap) (fun z z1 z2 => by rw [e1]; exact hk1 z z1 z2) (by rw [e1]; exact e6) e7
    have hS1 : va_S A s.heap T'.heap ([] ++ L1) := ⟨by rw [e1]; exact hz1, fun z z1 z2 => by rw [e1]; exact hk1 z z1 (fun w => z2 (hAw z w)), fun z hz => hAw _ (hL1 z hz)⟩
    have k : W p l e (headSpec (hiW y) (hiR y m m')).room s mid (.ref (ad 0) :: (js.map Value.int ++ [.ref q])).toArray below meth c T'.heap ([] ++ L1) (0 + (mC m' - mC m)) (0 + (mZ m' - mZ m)) (vx_MQ below (QcH D dA A ad m m' q cL r.1 (if r.1 = 0 then r.2.toInt64 else v)) (fun _ _ _ => False) (.ref (ad 0) :: (js.map Value.int ++ [.ref q])).toArray s (mC m' - mC m) (mZ m' - mZ m) A) (F0 mid (pv + 3) ls [.int r.2, .int 0, .ref q]) := by
      refine lv_i2l hx hb d3 rfl ?_
      refine va_last hx hb hKL P1 D1 hS1 (mN m') 0 Wx_at rfl (i := 0) (nn_in (a := 0) (by decide) (by decide)) d4 (fun H2 locs2 P2 D2 S2 => ?_)
      obtain ⟨P3, D3⟩ := Wx_put P2 D1
      refine lv_goto hx hb d5 ht5 ?_
      refine lv_iconst (v := 0) hx hb de (by decide) ?_
      refine W.widen (k := mC m' - mC m) (n := mZ m' - mZ m) (by omega) (by omega) (vx_ret ?_)
      refine W.zret (ty := .int) hx hb B.returns rfl (fun t2 ht2 hW2 => ?_) S2.2.2 de1 B.notSynchronized
      refine ⟨by rw [hr0]; rfl, ad', e5, ?_, ?_, e8, S2.F ht2⟩
      · rw [if_pos hr0, ht2]
        exact P3
      · rw [if_pos hr0]
        exact D3
    obtain ⟨t2, a1, b1⟩ := k T' rfl X'
    exact ⟨t2, stp t2 a1, b1⟩
  · -- it threw
    have hr0 : r.1 ≠ 0 := fun w => by
      unfold outc at e3
      rw [if_pos w] at e3
      cases e3
    have eE : exs[r.1 - 1]? = some E1 := by
      unfold outc at e3
      rw [if_neg hr0] at e3
      have e3 := Sum.inr.inj e3
      rw [List.getD_eq_getElem?_getD, List.getElem?_eq_getElem (by omega)] at e3
      rw [List.getElem?_eq_getElem (by omega)]
      exact congrArg some e3
    obtain ⟨hE, hcs, pre, xe, suf, hsp, hpre, hcov, hct, hlk9, hH⟩ := hX (r.1 - 1) E1 eE
    rw [show r.1 - 1 + 1 = r.1 by omega] at hH
    obtain ⟨hz1, hk1⟩ := hF
    rw [h0] at hz1 hk1
    obtain ⟨P1, D1⟩ := Wx_call hP0 hD hAw (H1 := T'.heap) (fun z z1 z2 => by rw [e1]; exact hk1 z z1 z2) (by rw [e1]; exact e6) e7
    have hS1 : va_S A s.heap T'.heap ([] ++ L1) := ⟨by rw [e1]; exact hz1, fun z z1 z2 => by rw [e1]; exact hk1 z z1 (fun w => z2 (hAw z w)), fun z hz => hAw _ (hL1 z hz)⟩
    have k : vx_W p l e (headSpec (hiW y) (hiR y m m')).room s mid (.ref (ad 0) :: (js.map Value.int ++ [.ref q])).toArray below meth c T'.heap ([] ++ L1) (0 + (mC m' - mC m)) (0 + (mZ m' - mZ m)) (vx_MQ below (QcH D dA A ad m m' q cL r.1 (if r.1 = 0 then r.2.toInt64 else v)) (fun _ _ _ => False) (.ref (ad 0) :: (js.map Value.int ++ [.ref q])).toArray s (mC m' - mC m) (mZ m' - mZ m) A) (F0 mid pv ls [.int 0, .ref q]) q9 := by
      refine vx_catch (own := RL) (name := E1) (E := E1) (ce := ce) hown' pre xe suf (by rw [htab]; exact hsp) (fun z hz => Or.inr ?_) hcov hct (hwl _ hlk9) ?_ (by rw [e1]; exact hce) hcv hcl9 ?_
      · obtain ⟨z1, nm, z2, z3, z4⟩ := hpre z hz
        exact ⟨z1, nm, hwl _ z4, hXs E1 hE nm z2 z3⟩
      · exact va_Nw.use rfl (hN _ hcs rfl)
      · refine hH q9 hx hb hl (fun pr ls' dr => ?_)
        refine W.widen (k := mC m' - mC m) (n := mZ m' - mZ m) (by omega) (by omega) (vx_ret ?_)
        refine W.zret (ty := .int) hx hb B.returns rfl (fun t2 ht2 hW2 => ?_) hS1.2.2 dr B.notSynchronized
        refine ⟨rfl, ad', e5, ?_, ?_, e8, hS1.F ht2⟩
        · rw [if_neg hr0, ht2]
          exact P1
        · rw [if_neg hr0]
          exact D1
    obtain ⟨t2, a1, b1⟩ := k T' rfl X'
    exact ⟨t2, stp.trans a1, b1⟩
