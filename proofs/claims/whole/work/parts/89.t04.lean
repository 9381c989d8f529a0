/-! THE LAW: its rows -/
/-- what stays the same while the law's body runs -/
def LC (D : va_G) (dA : Nat → ClassId) (cL : ClassId) (p : Program) (l : Launch) (s : State) (mid : MethodId) (b L : Nat) (xs : Nat → Int32) (meth : Method) (c : Code) : Prop :=
  p.tables.exec = Jvm.exec ∧ c.code = code ∧ c.maxLocals = 7 ∧ meth.sig.returnType = ret ∧ meth.locks = false ∧ s.vm.findClass RL = some mid.cls ∧ (∀ w, w ∈ wsL_law → w.before #[Value.ref b] s = true) ∧ l.stackTraces = false ∧ va_K D vwCl (tyl dA) s ∧ va_K D vwCl [(cL, .long)] s ∧ Nst s ∧ Xst s ∧ Str s ∧ Thr (fun z => s.heap.size ≤ z) s s.heap ∧ va_X b L xs s s.heap ∧ b < s.heap.size
theorem LStp.up {Z Z2 : Nat} {m : Mm} {y1 y2 : Mi} {a1 a2 : List Value} {exs : List String} (h : LStp Z m y1 a1 exs y2 a2) (hZ : Z ≤ Z2) : LStp Z2 m y1 a1 exs y2 a2 := by
  obtain ⟨r, hr, c1⟩ := h
  refine ⟨r, hr, C.mono c1 ?_⟩
  rintro o m1 ⟨h1, h2, h3, h4, c2⟩
  refine ⟨h1, h2, h3, h4, C.mono c2 ?_⟩
  rintro o2 m2 ⟨v, g1, g2, g3, g4, g5, g6, g7⟩
  exact ⟨v, g1, g2, g3, g4, g5, g6, g7.mono hZ⟩
section LawRows
variable {D : va_G} {dA : Nat → ClassId} {cL : ClassId} {p : Program} {l : Launch} {e : Env} {s : State} {mid : MethodId} {b L : Nat} {xs : Nat → Int32} {below : List Frame} {meth : Method} {c : Code} {Q : State → Prop} {H : Heap} {locs : List Loc} {ls : Array Slot}
theorem l_bool {pc : Nat} {x : Int32} {rest : List Value} {cells slots : Nat} (X : LC D dA cL p l s mid b L xs meth c) (d1 : decode code pc = .ok (.ifCond .eq 7, 3)) (d2 : decode code (pc + 3) = .ok (.iconst 1, 1)) (d3 : decode code (pc + 4) = .ok (.goto 4, 3)) (d4 : decode code (pc + 7) = .ok (.iconst 0, 1)) (k : W p l e room_1 s mid #[Value.ref b] below meth c H locs cells slots Q (F0 mid (pc + 8) ls (.int (bz (decide (x ≠ 0))) :: rest))) : W p l e room_1 s mid #[Value.ref b] below meth c H locs cells slots Q (F0 mid pc ls (.int x :: rest)) := by
  refine lv_if_eq (tgt := pc + 7) X.1 X.2.1 d1 (by omega) (fun h => ?_) (fun h => ?_)
  · refine lv_iconst (v := 0) X.1 X.2.1 d4 (by decide) ?_
    rw [show bz (decide (x ≠ 0)) = 0 by rw [h]; rfl] at k
    exact k
  · refine lv_iconst (v := 1) X.1 X.2.1 d2 (by decide) ?_
    refine lv_goto (tgt := pc + 8) X.1 X.2.1 d3 (by omega) ?_
    rw [show bz (decide (x ≠ 0)) = 1 by rw [decide_eq_true h]; rfl] at k
    exact k
/-- an element of the script, by a place behind i -/
theorem l_elem {pc i j : Nat} {n : Int} {rest : List Value} {cells slots : Nat} {lv : List (Nat × Value)} {k0 k4 : Nat} (X : LC D dA cL p l s mid b L xs meth c) (hS : va_S (fun z => s.heap.size ≤ z) s.heap H locs) (hl : lv_has ls 7 lv) (h0 : lv[k0]? = some (0, .ref b)) (h4 : lv[k4]? = some (4, .int (nn i))) (hL : L ≤ 2560) (hij : i + j < L) (d1 : decode code pc = .ok (.aload_n 0, 1)) (d2 : decode code (pc + 1) = .ok (.iload 4, 2)) (d3 : decode code (pc + 3) = .ok (.iconst n, 1)) (hn : Int32.ofInt n = nn j) (d4 : decode code (pc + 4) = .ok (.iadd, 1)) (d5 : decode code (pc + 5) = .ok (.iaload, 1)) (k : W p l e room_1 s mid #[Value.ref b] below meth c H locs cells slots Q (F0 mid (pc + 6) ls (.int (xs (i + j)) :: rest))) : W p l e room_1 s mid #[Value.ref b] below meth c H locs cells slots Q (F0 mid pc ls rest) := by
  obtain ⟨hx, hb, -, -, -, -, -, -, -, -, -, -, -, -, hX, hbl⟩ := X
  refine lv_aload_n hx hb d1 rfl (lv_at hl k0 h0) ?_
  refine lv_iload hx hb d2 (lv_at hl k4 h4) ?_
  refine lv_iconst (v := nn j) hx hb d3 hn ?_
  refine lv_iadd hx hb d4 ?_
  rw [nn_add]
  refine va_sld hx hb hX hbl (Nat.not_le.mpr hbl) hS (nn_in (by omega) hij) d5 ?_
  rw [nn_tn (by omega)]
  exact k
/-- a call of the class or the model -/
theorem l_callV {y2 : Mi} {b0 a0 ci idx pc : Nat} {js : List Int32} {z : Int32} {m m1 : Mm} {ad : Nat → Nat} {q : Nat} {v : Int64} {rest st0 : List Value} (X : LC D dA cL p l s mid b L xs meth c) (d : decode code pc = .ok (.invokevirtual idx, 3)) (hq : CalV y2 js.length) (hl : Cond.methodLink RL idx y2.1 ∈ wsL_law) (hfit : y2.2.2.2.2.1 + 1 ≤ 12 ∧ 8 + (y2.2.2.1 + 11) + y2.2.2.2.2.2 ≤ 476) (hci : (shp b0).1 = ci) (hc13 : ci < 13) (hcl : (clsOf ci).1 = y2.1.cls) (hb0 : b0 < 714) (hLx : Lx D dA (fun z => s.heap.size ≤ z) ad m q cL v s H locs) (hSt : St m) (ha0 : ad b0 = a0) (hls : ls.size = 7) (hstk : st0 = (js.map Value.int).reverse ++ .ref a0 :: rest) (h8 : (rest.map fun v => v.category).sum ≤ 8) (ct : Ct y2 (.ref b0 :: js.map Value.int) m (.inl (some (.int z))) m1) (hc : mC m1 + 1 ≤ 601024) (hz : mZ m1 + 1 ≤ 7293034)
    (kk : ∀ (ad1 : Nat → Nat) (H1 : Heap) (locs1 : List Loc), Lx D dA (fun z => s.heap.size ≤ z) ad1 m1 q cL v s H1 locs1 → (∀ j, j < mN m → ad1 j = ad j) → W p l e room_1 s mid #[Value.ref b] below meth c H1 locs1 (mC m1 + 1) (mZ m1 + 1) Q (F0 mid (pc + 3) ls (.int z :: rest))) : W p l e room_1 s mid #[Value.ref b] below meth c H locs (mC m + 1) (mZ m + 1) Q (F0 mid pc ls st0) := by
  obtain ⟨hx, hb, hml, hret, hlk, hown, hts, hst, hK, hKL, hN, hXs, hStr, hT, hX, hbl⟩ := X
  subst ha0
  have hbm : b0 < mN m := Nat.lt_of_lt_of_le hb0 hSt.2.2
  have Y := hLx.dy
  have hAw : ∀ z, va_A (wof ad dA m) H.size z → s.heap.size ≤ z := fun z h => by
    rcases h with ⟨k, w, h⟩ | h
    · exact hLx.2.1.2 k (z, w) (Wx_lt h)
    · exact Nat.le_trans hLx.2.2.2.1 h
  have eA : ((.ref b0 :: js.map Value.int : List Value)).map (shv ad) = .ref (ad b0) :: js.map Value.int := by
    rw [List.map_cons]
    refine congrArg (fun z => Value.ref (ad b0) :: z) ?_
    rw [List.map_map]
    exact List.map_congr_left (fun _ _ => rfl)
  have hrecv : ∃ cell : Cell, H[ad b0]? = some cell ∧ cell.vm.isStatics = false ∧ s.vm.findClass y2.1.cls = some cell.cls := by
    rw [← hcl]
    exact va_recv hK Y.1 (clsOf_at hc13) (wof_obj hbm (by rw [hSt.1 b0 hb0]; exact hci) hc13)
  have cb : CallB room_1 s #[Value.ref b] RL idx y2.1 y2.2.1 y2.2.2.1 y2.2.2.2.1 (miW y2) (rmM y2 m m1) (mC m1 - mC m) (mZ m1 - mZ m) js.length := by
    refine callB_of (Ts := wsL_law) (ws' := wsL_law) js.length hts (fun w hw0 => ?_) rfl rfl rfl (hts _ hq.1.1) (hts _ hl) hq.1.2.2 hfit
    have h1 : w ∈ wsL_law := by
      rcases List.mem_cons.mp hw0 with e | e
      · rw [e]; exact hq.1.2.1
      · exact e
    exact ⟨h1, good_of_word (List.all_eq_true.mp law_good w h1)⟩
  have run := va_runV (p := p) (l := l) (e := e) (R := room_1) (s := s) (m := mid) (args := #[Value.ref b]) (below := below) (meth := meth) (c := c) (H := H) (locs := locs) (cells := mC m + 1) (slots := mZ m + 1) (g := F0 mid pc ls st0) (b := ad b0) (As := js.map Value.int) (rest := rest) (C := y2.1.cls) (cc := code) (nL := 7) (Ts := wsL_law)
    ⟨hx, hb, hml, hown, hts⟩ (ct.met hst D dA ad H.size) ⟨cb, hts _ hq.2.1, hts _ hq.2.2⟩ ⟨PcM.blind, hrecv, fun U hU hW => by
      have : PcM D dA ad m (.ref b0 :: js.map Value.int) H.size ((.ref b0 :: js.map Value.int).map (shv ad)).toArray U := by
        refine ⟨rfl, by rw [hU], by rw [hU]; exact Y.1, va_K.moved hW.alike hK, Y.2.1.weaken (fun _ _ _ _ => trivial), Y.2.2.1, hN.warm hW, hStr.warm hW, by rw [hU]; exact hT.go hW.alike hLx.2.2.2.2.1 hAw, ?_⟩
        intro w hw
        rcases List.mem_cons.mp hw with h | h
        · rw [h]
          exact hbm
        · obtain ⟨j, -, rfl⟩ := List.mem_map.mp h
          exact trivial
      rw [eA] at this
      exact this⟩ rfl (by rw [List.length_map]) hls hstk (lv_room h8) d ⟨by have := ct.1; show mC m + 1 + (mC m1 - mC m) ≤ 601024; omega, by have := ct.2.1; show mZ m + 1 + (mZ m1 - mZ m) ≤ 7293034; omega⟩
  intro T hT0 XS
  obtain ⟨v', st₀, t, T', L1, h0, X', hL1, e1, e2, ⟨v2, ad', e3, e4, e5, e6, e7, e8, e9, hF⟩, stp⟩ := run T hT0 XS
  cases e3
  cases e4
  obtain ⟨hz1, hk1⟩ := hF
  rw [h0] at hz1 hk1
  obtain ⟨P1, D1⟩ := Wx_call hLx.1 hLx.2.1 hAw (H1 := T'.heap) (fun z z1 z2 => by rw [e1]; exact hk1 z z1 z2) (by rw [e1]; exact e6) e7
  have hS1 : va_S (fun z => s.heap.size ≤ z) s.heap T'.heap (locs ++ L1) := ⟨Nat.le_trans hLx.2.2.2.1 (by rw [e1]; exact hz1), fun z z1 z2 => by rw [e1, hk1 z (Nat.lt_of_lt_of_le z1 hLx.2.2.2.1) (fun w => z2 (hAw z w))]; exact hLx.2.2.2.2.1 z z1 z2, fun z hz => by
    rcases List.mem_append.mp hz with h | h
    · exact hLx.2.2.2.2.2 z h
    · exact hAw _ (hL1 z h)⟩
  have k := kk ad' T'.heap (locs ++ L1) ⟨P1, D1, e8, hS1⟩ e5
  rw [show mC m1 + 1 = mC m + 1 + (mC m1 - mC m) by have := ct.1; omega, show mZ m1 + 1 = mZ m + 1 + (mZ m1 - mZ m) by have := ct.2.1; omega] at k
  obtain ⟨t2, a1, b1⟩ := k T' rfl X'
  exact ⟨t2, stp t2 a1, b1⟩
/-- a call of a method of the law's own -/
theorem l_help {y : Hi} {y2 : Mi} {js : List Int32} {exs : List String} {r : Nat × Int32} {m m1 : Mm} {pv pe idx pc x0 : Nat} {ad : Nat → Nat} {q : Nat} {v : Int64} {rest st0 : List Value} (X : LC D dA cL p l s mid b L xs meth c) (hpl : plainName y.1.cls = true) (how : y.1.cls = RL) (hml2 : js.length + 2 ≤ y.2.2.1) (hB : HiB y y2 js.length pv pe) (hLd : HiL y js.length pv) (hHX : HiX y exs pv) (hr : r.1 ≤ exs.length) (ct : Ct y2 (.ref 0 :: js.map Value.int) m (outc exs r) m1)
    (d : decode code pc = .ok (.invokestatic idx, 3)) (hw : Cond.methodLink RL idx y.1 ∈ wsL_law ∧ Cond.static y.1 ∈ wsL_law ∧ Cond.codeWith y.1 y.2.1 y.2.2.1 (some .int) y.2.2.2.1 ∈ wsL_law ∧ Cond.initialized y.1.cls ∈ wsL_law) (hd : y.1.cls ≠ "java/lang/invoke/MethodHandle" ∧ y.1.cls ≠ "java/lang/invoke/VarHandle" ∧ (parseMethodDescriptor y.1.desc).map (fun d => d.parameters.length) = some (js.length + 2)) (hfit : y.2.2.2.2.1 + 1 ≤ 12 ∧ 8 + (y.2.2.1 + 11) + y.2.2.2.2.2 ≤ 476)
    (hLx : Lx D dA (fun z => s.heap.size ≤ z) ad m q cL v s H locs) (hSt : St m) (hx0 : ad 0 = x0) (hls : ls.size = 7) (hstk : st0 = (.ref x0 :: (js.map Value.int ++ [.ref q])).reverse ++ rest) (h8 : (rest.map fun v => v.category).sum ≤ 8) (hc : mC m1 + 1 ≤ 601024) (hz : mZ m1 + 1 ≤ 7293034)
    (kk : ∀ (ad1 : Nat → Nat) (H1 : Heap) (locs1 : List Loc), Lx D dA (fun z => s.heap.size ≤ z) ad1 m1 q cL (if r.1 = 0 then r.2.toInt64 else v) s H1 locs1 → (∀ j, j < mN m → ad1 j = ad j) → W p l e room_1 s mid #[Value.ref b] below meth c H1 locs1 (mC m1 + 1) (mZ m1 + 1) Q (F0 mid (pc + 3) ls (.int (nn r.1) :: rest))) : W p l e room_1 s mid #[Value.ref b] below meth c H locs (mC m + 1) (mZ m + 1) Q (F0 mid pc ls st0) := by
  obtain ⟨hx, hb, hml, hret, hlk, hown, hts, hst, hK, hKL, hN, hXs, hStr, hT, hX, hbl⟩ := X
  subst hx0
  have hAw : ∀ z, va_A (Wx ad dA m q cL v) H.size z → s.heap.size ≤ z := fun z h => by
    rcases h with ⟨k, w, h⟩ | h
    · exact hLx.2.1.2 k (z, w) h
    · exact Nat.le_trans hLx.2.2.2.1 h
  have hM := hi_ct hpl how hml2 hB hLd hHX hr ct hst D dA ad q cL v H.size
  have hG : GoodIn wsL_law (hiW y) := fun w hw0 => by
    have h1 : w ∈ wsL_law := by
      rcases List.mem_cons.mp hw0 with e | e
      · rw [e]; exact hw.2.2.1
      · exact e
    exact ⟨h1, good_of_word (List.all_eq_true.mp law_good w h1)⟩
  have cw : vx_CSW room_1 s #[Value.ref b] RL idx y.1 y.2.1 y.2.2.1 (some .int) y.2.2.2.1 (hiW y) (hiR y m m1) (mC m1 - mC m) (mZ m1 - mZ m) (js.length + 2) :=
    ⟨⟨rfl, rfl, hfit.1, hfit.2, pay_in hts hG, List.mem_cons_self⟩, hts _ hw.2.2.1, hts _ hw.2.2.2, ⟨hd.1, hd.2.1⟩, fun sig h => by
      have h2 := hd.2.2
      rw [h] at h2
      exact (Option.some.inj h2).symm, hts _ hw.1, hts _ hw.2.1⟩
  have run := vx_runSX (p := p) (l := l) (e := e) (R := room_1) (s := s) (m := mid) (args := #[Value.ref b]) (below := below) (meth := meth) (c := c) (H := H) (locs := locs) (cells := mC m + 1) (slots := mZ m + 1) (g := F0 mid pc ls st0) (As := .ref (ad 0) :: (js.map Value.int ++ [.ref q])) (rest := rest) (cc := code) (nL := 7) (Ts := wsL_law) (own := RL) (hh := y.2.2.2.1)
    ⟨hx, hb, hml, hown, hts⟩ hM cw ⟨PcH.blind, fun U hU hW => ⟨rfl, by rw [hU], by rw [hU]; exact hLx.1, va_K.moved hW.alike hK, va_K.moved hW.alike hKL, hLx.2.1.weaken (fun _ _ _ _ => trivial), hLx.2.2.1, hN.warm hW, hXs.moved hW.alike, hStr.warm hW, by rw [hU]; exact hT.go hW.alike hLx.2.2.2.2.1 hAw, hSt⟩⟩ rfl (by simp only [List.length_cons, List.length_append, List.length_map, List.length_nil]) hls hstk (lv_room h8) d ⟨by have := ct.1; show mC m + 1 + (mC m1 - mC m) ≤ 601024; omega, by have := ct.2.1; show mZ m + 1 + (mZ m1 - mZ m) ≤ 7293034; omega⟩
  intro T hT0 XS
  rcases run T hT0 XS with ⟨v', st₀, t, T', L1, h0, X', hL1, e1, e2, ⟨e3, ad', e5, e6, e7, e8, hF⟩, stp⟩ | ⟨q9, st₀, t, T', L1, E1, ce, h0, X', hL1, e1, e2, e3, _⟩
  · cases e3
    obtain ⟨hz1, hk1⟩ := hF
    rw [h0] at hz1 hk1
    have hS1 : va_S (fun z => s.heap.size ≤ z) s.heap T'.heap (locs ++ L1) := ⟨Nat.le_trans hLx.2.2.2.1 (by rw [e1]; exact hz1), fun z z1 z2 => by rw [e1, hk1 z (Nat.lt_of_lt_of_le z1 hLx.2.2.2.1) (fun w => z2 (hAw z w))]; exact hLx.2.2.2.2.1 z z1 z2, fun z hz => by
      rcases List.mem_append.mp hz with h | h
      · exact hLx.2.2.2.2.2 z h
      · exact hAw _ (hL1 z h)⟩
    have k := kk ad' T'.heap (locs ++ L1) ⟨by rw [e1]; exact e6, e7.weaken (fun _ _ _ h => hAw _ h), e8, hS1⟩ e5
    rw [show mC m1 + 1 = mC m + 1 + (mC m1 - mC m) by have := ct.1; omega, show mZ m1 + 1 = mZ m + 1 + (mZ m1 - mZ m) by have := ct.2.1; omega] at k
    obtain ⟨t2, a1, b1⟩ := k T' rfl X'
    exact ⟨t2, stp t2 a1, b1⟩
  · exact e3.elim
theorem s12_thrown {m : Mm} (hm : St m) : C m12_thrown [.ref 668] m (fun o m' => o = .inl (some (.int (mI m 668 12))) ∧ m' = m) := C.of (by decide +kernel) (Nat.le_of_ble_eq_true rfl) rfl (w12_thrown hm ⟨rfl, rfl⟩)
/-- where a case of the law goes on -/
def LK (D : va_G) (dA : Nat → ClassId) (cL : ClassId) (p : Program) (l : Launch) (e : Env) (s : State) (mid : MethodId) (b i : Nat) (below : List Frame) (meth : Method) (c : Code) (Q : State → Prop) (x0 m0 q Z2 cm zm : Nat) : Prop := ∀ (ad1 : Nat → Nat) (H1 : Heap) (locs1 : List Loc) (ls1 : Array Slot) (m2 : Mm) (v2 : Int64), Lx D dA (fun z => s.heap.size ≤ z) ad1 m2 q cL v2 s H1 locs1 → St m2 → ad1 0 = x0 → ad1 668 = m0 → lv_has ls1 7 [(0, .ref b), (1, .ref x0), (2, .ref m0), (3, .ref q), (4, .int (nn i))] → IVx Z2 m2 → mC m2 ≤ cm → mZ m2 ≤ zm → W p l e room_1 s mid #[Value.ref b] below meth c H1 locs1 (mC m2 + 1) (mZ m2 + 1) Q (F0 mid 1374 ls1 [])
/-- the answers are compared, from the model's on -/
theorem l_cmp {pc i x0 m0 q Z2 cm zm : Nat} {off : Int} {r : Nat × Int32} {v' : Int32} {ad : Nat → Nat} {m2 : Mm} {v : Int64} (X : LC D dA cL p l s mid b L xs meth c) (hv : r.1 = 0 → v' = r.2) (hr : r.1 < 1000) (h12 : mI m2 668 12 = nn r.1) (hLx : Lx D dA (fun z => s.heap.size ≤ z) ad m2 q cL (if r.1 = 0 then r.2.toInt64 else v) s H locs) (hSt : St m2) (h0 : ad 0 = x0) (h668 : ad 668 = m0) (hl : lv_has ls 7 [(5, .int (nn r.1)), (0, .ref b), (1, .ref x0), (2, .ref m0), (3, .ref q), (4, .int (nn i))]) (hI : IVx Z2 m2) (hcm : mC m2 ≤ cm) (hzm : mZ m2 ≤ zm) (hcc : cm + 1 ≤ 601024) (hzz : zm + 1 ≤ 7293034)
    (d0 : decode code pc = .ok (.istore 6, 2)) (d2 : decode code (pc + 2) = .ok (.aload_n 2, 1)) (d3 : decode code (pc + 3) = .ok (.invokevirtual 84, 3)) (d6 : decode code (pc + 6) = .ok (.iload 5, 2)) (d8 : decode code (pc + 8) = .ok (.if_icmp .eq 5, 3)) (d13 : decode code (pc + 13) = .ok (.iload 5, 2)) (d15 : decode code (pc + 15) = .ok (.ifCond .ne 15, 3)) (d18 : decode code (pc + 18) = .ok (.aload_n 3, 1)) (d19 : decode code (pc + 19) = .ok (.iconst 0, 1)) (d20 : decode code (pc + 20) = .ok (.laload, 1)) (d21 : decode code (pc + 21) = .ok (.iload 6, 2)) (d23 : decode code (pc + 23) = .ok (.i2l, 1)) (d24 : decode code (pc + 24) = .ok (.lcmp, 1)) (d25 : decode code (pc + 25) = .ok (.ifCond .eq 5, 3)) (d30 : decode code (pc + 30) = .ok (.goto off, 3)) (ht : ((pc + 30 : Nat) : Int) + off = (1374 : Nat)) (hcal : CalV m12_thrown 0) (hlk : Cond.methodLink RL 84 m12_thrown.1 ∈ wsL_law)
    (kk : LK D dA cL p l e s mid b i below meth c Q x0 m0 q Z2 cm zm) : W p l e room_1 s mid #[Value.ref b] below meth c H locs (mC m2 + 1) (mZ m2 + 1) Q (F0 mid pc ls [.int v']) := by
  have hx := X.1
  have hb := X.2.1
  refine lv_istore hx hb d0 hl (by decide) rfl (fun ls hl => ?_)
  have hl : lv_has ls 7 [(6, .int v'), (5, .int (nn r.1)), (0, .ref b), (1, .ref x0), (2, .ref m0), (3, .ref q), (4, .int (nn i))] := hl
  refine lv_aload_n hx hb d2 rfl (lv_at hl 4 rfl) ?_
  obtain ⟨o3, m3, ⟨rfl, rfl⟩, ct3⟩ := s12_thrown hSt
  refine l_callV (y2 := m12_thrown) (b0 := 668) (ci := 12) (js := []) X d3 hcal hlk ⟨by decide, by decide⟩ rfl (by decide) rfl (by decide) hLx hSt h668 hl.1 rfl (Nat.le_of_ble_eq_true rfl) ct3 (by omega) (by omega) (fun ad1 H1 locs1 hLx1 hext => ?_)
  have h714 : 714 ≤ mN m3 := hSt.2.2
  rw [h12]
  refine lv_iload hx hb d6 (lv_at hl 1 rfl) ?_
  refine lv_icmp_eq (tgt := pc + 13) hx hb d8 (by omega) (fun _ => ?_) (fun h => absurd rfl h)
  have fin : W p l e room_1 s mid #[Value.ref b] below meth c H1 locs1 (mC m3 + 1) (mZ m3 + 1) Q (F0 mid (pc + 30) ls []) := by
    refine lv_goto (tgt := 1374) hx hb d30 ht ?_
    exact kk ad1 H1 locs1 ls m3 _ hLx1 hSt ((hext 0 (by omega)).trans h0) ((hext 668 (by omega)).trans h668) (lv_sub hl [2, 3, 4, 5, 6] rfl) hI hcm hzm
  refine lv_iload hx hb d13 (lv_at hl 1 rfl) ?_
  refine lv_if_ne (tgt := pc + 30) hx hb d15 (by omega) (fun _ => fin) (fun hz0 => ?_)
  have hr0 : r.1 = 0 := (nn_eq (b := 0) (by omega) (by decide)).mp hz0
  refine lv_aload_n hx hb d18 rfl (lv_at hl 5 rfl) ?_
  refine lv_iconst (v := 0) hx hb d19 (by decide) ?_
  refine va_lald hx hb X.2.2.2.2.2.2.2.2.2.1 hLx1.1 (mN m3) 0 Wx_at rfl (i := 0) (nn_in (a := 0) (by decide) (by decide)) d20 ?_
  refine lv_iload hx hb d21 (lv_at hl 0 rfl) ?_
  refine lv_i2l hx hb d23 rfl ?_
  refine W.lcmp hx hb d24 ?_
  refine lv_if_eq (tgt := pc + 30) hx hb d25 (by omega) (fun _ => fin) (fun h => ?_)
  refine absurd ?_ h
  rw [if_pos hr0, hv hr0]
  unfold lg_cmp
  rw [if_neg (fun h => Int64.lt_irrefl h), if_pos rfl]
end LawRows
