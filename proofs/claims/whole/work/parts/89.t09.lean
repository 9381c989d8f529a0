/-! THE LAW: from its entry -/
theorem kL11_init : CalI m11_init 0 := ⟨⟨(r1_law _ (List.mem_of_getElem? (i := 2) rfl)), (r1_law _ (List.mem_of_getElem? (i := 9) rfl)), by decide +kernel⟩, (r1_law _ (List.mem_of_getElem? (i := 8) rfl)), rfl, rfl⟩
theorem kL12_init : CalI m12_init 0 := ⟨⟨(r1_law _ (List.mem_of_getElem? (i := 5) rfl)), (r7_law _ (List.mem_of_getElem? (i := 5) rfl)), by decide +kernel⟩, (r7_law _ (List.mem_of_getElem? (i := 4) rfl)), rfl, rfl⟩
/-- from the entry, for every script of at most 2560 ints, the law comes to its end with true -/
theorem whole_start {p : Program} {e : Env} {s : State} {m : MethodId} {below : List Frame} {meth : Method} {c : Code} (l : Launch) (hflags : l.flags = flags0) {b L : Nat} {xs : Nat → Int32} (hL : L ≤ 2560) (C0 : lw_At p s m meth c b L xs) : W p l e room_1 s m #[Value.ref b] below meth c s.heap [] 0 0 (lw_Z below #[Value.ref b] s) (entryFrame m ([Value.ref b] : List Value).toArray 7) := by
  obtain ⟨hx, hb, hr, hml, hown0, hts0, hX, hbl, hlocks, hgv⟩ := id C0
  have hown : s.vm.findClass RL = some m.cls := hown0
  have hts : ∀ w, w ∈ wsL_law → w.before #[Value.ref b] s = true := fun w h => hts0 w (wsL_law_in w h)
  have htab : ∀ w, w ∈ tables_1 → w.before #[Value.ref b] s = true := fun w h => hts0 w (List.mem_append_right _ h)
  have hfl := flat_of_before _ hgv
  have hst : l.stackTraces = false := by
    unfold Launch.stackTraces
    rw [hflags]
    decide +kernel
  obtain ⟨D, hD0⟩ := kn_all hts
  obtain ⟨dA, hA0⟩ := arr_all htab
  have hK : va_K D vwCl (tyl dA) s := ⟨hD0, hA0⟩
  have hN : Nst s := fun w hw hi => va_Nw.of (isNest_tables hi) (htab w hw)
  have hXs : Xst s := fun E hE F hF ne => va_Nc.of (hfl _ (ncW E hE F hF ne))
  have hStr : Str s := ⟨fun q hq => by
    obtain ⟨a, c, cA, kA, q1, -⟩ := Cond.exactly_spec (args := #[Value.ref b]) (first := s) (o := none) (s := s) (idx := []) (t := .string RX11 q.1) (cls := "java/lang/String") (hfl _ (strW_ex q hq))
    exact ⟨a, vk_R.of (htab _ (strW_in q hq)) q1⟩, va_AO.of (htab _ arrL.2.2.1), va_AO.of (htab _ arrL.2.2.2.1), va_AO.of (htab _ arrL.2.2.2.2.1), va_AO.of (htab _ arrL.2.2.2.2.2.1), htab _ arrL.2.2.2.2.2.2⟩
  have hT : Thr (fun z => s.heap.size ≤ z) s s.heap := ⟨vx_Zqof (htab _ thrL.1) (htab _ thrL.2.2) (hfl _ thrW.1) (fun a h => Nat.not_le.mpr h), vx_Zqof (htab _ thrL.2.1) (htab _ thrL.2.2) (hfl _ thrW.2) (fun a h => Nat.not_le.mpr h)⟩
  have hw0 : ∀ (k : Nat) (q : Nat × va_E), (wof (fun _ => 0) dA mNil)[k]? = some q → False := fun k q h => by
    have h1 := (List.getElem?_eq_some_iff.mp h).1
    rw [wof_len] at h1
    exact absurd h1 (Nat.not_lt_zero _)
  have Y0 : Dy D dA (fun z => s.heap.size ≤ z) (fun _ => 0) mNil s s.heap [] := ⟨fun k q h => (hw0 k q h).elim, ⟨fun i j x y h => (hw0 i x h).elim, fun k q h => (hw0 k q h).elim⟩, fun k j a h => absurd h (Nat.not_lt_zero _), va_S.rf⟩
  have hl := lv_entry ([.ref b]) (n := 7) (Nat.le_of_ble_eq_true rfl)
  rw [lg_entry_eq]
  generalize (lg_sl ([.ref b]) ++ List.replicate (7 - (lg_sl ([.ref b])).length) Slot.unset).toArray = ls at hl ⊢
  have hl : lv_has ls 7 [(0, .ref b)] := hl
  refine l_new (ci := 11) (m := mNil) hx hb hown hts hK dL_law_0 (by decide) (r1_law _ (List.mem_of_getElem? (i := 0) rfl)) (r1_law _ (List.mem_of_getElem? (i := 1) rfl)) (r1_law _ (List.mem_of_getElem? (i := 2) rfl)) Y0 (Nat.le_of_ble_eq_true rfl) (Nat.le_of_ble_eq_true rfl) (fun ad1 H1 Y1 hext1 => ?_)
  have B1 : Bld 1 (fun a _ => a = 0) 1 5 (mNew mNil 11 0 (clsOf 11).2.2) := (bld_nil.obj (kd := 11) (zz := (clsOf 11).2.2) rfl).close rfl rfl rfl (fun a j h => Or.inl (h.elim (fun w => w.elim) (fun w => w)))
  obtain ⟨m1, hm1⟩ : ∃ m1, m1 = mNew mNil 11 0 (clsOf 11).2.2 := ⟨_, rfl⟩
  have ec : mC mNil + 1 = mC m1 := by rw [hm1]; rfl
  have ez : mZ mNil + (clsOf 11).2.2 = mZ m1 := by rw [hm1]; rfl
  rw [ec, ez]
  rw [← hm1] at Y1 B1
  obtain ⟨o2, m2, ⟨rfl, B2⟩, ct2⟩ := c_X11 B1
  have n1 : mN m1 = 1 := B1.1
  have n2 : mN m2 = 668 := B2.1
  have c2 : mC m2 = 1 + 667 := B2.2.1
  have z2 : mZ m2 = 5 + 85741 := B2.2.2.1
  refine lv_dup hx hb dL_law_3 rfl ?_
  refine l_callI (y2 := m11_init) (b0 := 0) (m := m1) hx hb hml hown hts hst hK hN hStr hT dL_law_4 kL11_init (r1_law _ (List.mem_of_getElem? (i := 7) rfl)) ⟨by decide, by decide⟩ (by omega) Y1 rfl hl.1 (Nat.le_of_ble_eq_true rfl) ct2 (by omega) (by omega) (fun ad2 H2 locs2 Y2 hext2 => ?_)
  refine lv_astore_n hx hb dL_law_7 rfl hl (by decide) rfl (fun ls hl => ?_)
  have hl : lv_has ls 7 [(1, .ref (ad1 0)), (0, .ref b)] := hl
  refine l_new (ci := 12) (m := m2) hx hb hown hts hK dL_law_8 (by decide) (r1_law _ (List.mem_of_getElem? (i := 3) rfl)) (r1_law _ (List.mem_of_getElem? (i := 4) rfl)) (r1_law _ (List.mem_of_getElem? (i := 5) rfl)) Y2 (by omega) (by rw [z2]; exact Nat.le_of_ble_eq_true rfl) (fun ad3 H3 Y3 hext3 => ?_)
  have B3 : Bld 669 (fun a j => False ∨ a = 668) (1 + 667 + 1) (5 + 85741 + (clsOf 12).2.2) (mNew m2 12 0 (clsOf 12).2.2) := B2.obj rfl
  obtain ⟨m3, hm3⟩ : ∃ m3, m3 = mNew m2 12 0 (clsOf 12).2.2 := ⟨_, rfl⟩
  have ec : mC m2 + 1 = mC m3 := by rw [hm3]; rfl
  have ez : mZ m2 + (clsOf 12).2.2 = mZ m3 := by rw [hm3]; rfl
  rw [ec, ez, n2]
  rw [← hm3] at Y3 B3
  obtain ⟨o4, m4, ⟨rfl, B4⟩, ct4⟩ := c_X12 (g := fun _ _ => False) B3
  have n3 : mN m3 = 669 := B3.1
  have c4 : mC m4 = 1 + 667 + 1 + 45 := B4.2.1
  have z4 : mZ m4 = 5 + 85741 + (clsOf 12).2.2 + 383335 := B4.2.2.1
  have z4 : mZ m4 = 469145 := z4
  refine lv_dup hx hb dL_law_11 rfl ?_
  refine l_callI (y2 := m12_init) (b0 := 668) (m := m3) hx hb hml hown hts hst hK hN hStr hT dL_law_12 kL12_init (r7_law _ (List.mem_of_getElem? (i := 3) rfl)) ⟨by decide, by decide⟩ (by omega) Y3 rfl hl.1 (Nat.le_of_ble_eq_true rfl) ct4 (by omega) (by omega) (fun ad4 H4 locs4 Y4 hext4 => ?_)
  refine lv_astore_n hx hb dL_law_15 rfl hl (by decide) rfl (fun ls hl => ?_)
  have hl : lv_has ls 7 [(2, .ref (ad3 668)), (1, .ref (ad1 0)), (0, .ref b)] := hl
  refine lv_iconst (v := 1) hx hb dL_law_16 (by decide) ?_
  refine va_newa (N' := 1) hx hb (atype := .long) (ty := .long) (hts _ (r1_law _ (List.mem_of_getElem? (i := 6) rfl))) rfl hK Y4.1 Y4.2.1 Y4.2.2.2 (fun z h => h) (a0 := (1, .inr (.inl (fun _ => 0)))) (fun cA => rfl) (by decide) (by decide) (by decide) (by show mC m4 + 1 ≤ 601024; omega) (by show mZ m4 + 1 ≤ 7293034; omega) dL_law_17 (fun q cL H5 hK5 hP5 hD5 hS5 => ?_)
  have hKL : va_K D vwCl [(cL, .long)] s := hK5.sub [7] rfl
  have hLx : Lx D dA (fun z => s.heap.size ≤ z) ad4 m4 q cL 0 s H5 locs4 := ⟨hP5, hD5, Y4.2.2.1, hS5⟩
  refine lv_astore_n hx hb dL_law_19 rfl hl (by decide) rfl (fun ls hl => ?_)
  refine lv_iconst (v := nn 0) hx hb dL_law_20 (by decide) ?_
  refine lv_istore hx hb dL_law_21 hl (by decide) rfl (fun ls hl => ?_)
  have hl : lv_has ls 7 [(4, .int (nn 0)), (3, .ref q), (2, .ref (ad3 668)), (1, .ref (ad1 0)), (0, .ref b)] := hl
  have X : LC D dA cL p l s m b L xs meth c := ⟨hx, hb, hml, hr, hlocks, hown, hts, hst, hK, hKL, hN, hXs, hStr, hT, hX, hbl⟩
  exact law_loop X hL (zb := mZ m4) (by omega) 512 0 ad4 H5 locs4 ls m4 0 (by omega) (Nat.zero_le _) (iv_bld B4) hLx ((hext4 0 (by omega)).trans ((hext3 0 (by omega)).trans (hext2 0 (by omega)))) (hext4 668 (by omega)) (lv_sub hl [4, 3, 2, 1, 0] rfl) (by omega) (Nat.le_refl _)
