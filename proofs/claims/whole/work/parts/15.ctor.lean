/-! written by gen/ctor.py: the constructors of the static cells -/
theorem sh_sc {i : Nat} (hi : i < 102) : shp (31 + 2 * i) = (7, 0) ∧ shp (32 + 2 * i) = (13, 6) := by
  unfold shp
  constructor
  · rw [if_neg (by omega), if_pos (by omega), if_pos (by omega)]
  · rw [if_neg (by omega), if_pos (by omega), if_neg (by omega)]
theorem sh_lv {i : Nat} (hi : i < 102) : shp (235 + 3 * i) = (2, 0) ∧ shp (236 + 3 * i) = (13, 40) ∧ shp (237 + 3 * i) = (13, 40) := by
  unfold shp
  refine ⟨?_, ?_, ?_⟩
  · rw [if_neg (by omega), if_neg (by omega), if_pos (by omega), if_pos (by omega)]
  · rw [if_neg (by omega), if_neg (by omega), if_pos (by omega), if_neg (by omega)]
  · rw [if_neg (by omega), if_neg (by omega), if_pos (by omega), if_neg (by omega)]
theorem sh_fo {i k : Nat} (hi : i < 10) (hk : k < 12) : shp (548 + 12 * i + k) = shpF.getD k (0, 0) := by
  unfold shp
  rw [if_neg (by omega), if_neg (by omega), if_neg (by omega), if_neg (by omega), if_pos (by omega), show (548 + 12 * i + k - 548) % 12 = k by omega]
theorem st_sc {i j : Nat} (hi : i < 102) : stR (31 + 2 * i) j = (if j = 0 then some (32 + 2 * i) else none) ∧ stR (32 + 2 * i) j = none := by
  unfold stR
  constructor
  · rw [if_neg (by omega), if_pos (by omega)]
    by_cases h : j = 0
    · rw [if_pos (by omega), if_pos h]
      congr 1
      omega
    · rw [if_neg (by omega), if_neg h]
  · rw [if_neg (by omega), if_pos (by omega), if_neg (by omega)]
theorem st_lv {i j : Nat} (hi : i < 102) : stR (235 + 3 * i) j = (if j < 2 then some (236 + 3 * i + j) else none) ∧ stR (236 + 3 * i) j = none ∧ stR (237 + 3 * i) j = none := by
  unfold stR
  refine ⟨?_, ?_, ?_⟩
  · rw [if_neg (by omega), if_neg (by omega), if_pos (by omega)]
    by_cases h : j < 2
    · rw [if_pos (by omega), if_pos h]
      congr 1
      omega
    · rw [if_neg (by omega), if_neg h]
  · rw [if_neg (by omega), if_neg (by omega), if_pos (by omega), if_neg (by omega)]
  · rw [if_neg (by omega), if_neg (by omega), if_pos (by omega), if_neg (by omega)]
theorem st_fo {i k j : Nat} (hi : i < 10) (hk : k < 12) : stR (548 + 12 * i + k) j = (if k = 0 then (match j with
      | 0 => some (548 + 12 * i + 1)
      | 1 => some (548 + 12 * i + 2)
      | 2 => some (548 + 12 * i + 9)
      | 4 => some (548 + 12 * i + 10)
      | 5 => some (548 + 12 * i + 11)
      | _ => none) else if k = 2 ∧ j < 6 then some (548 + 12 * i + 3 + j) else none) := by
  unfold stR
  rw [if_neg (by omega), if_neg (by omega), if_neg (by omega), if_neg (by omega), if_pos (by omega), show (548 + 12 * i + k - 548) % 12 = k by omega]
  by_cases h : k = 0
  · subst h
    rw [if_pos rfl, if_pos rfl]
    rfl
  · rw [if_neg h, if_neg h]
    by_cases h2 : k = 2 ∧ j < 6
    · rw [if_pos h2, if_pos h2]
      congr 1
      omega
    · rw [if_neg h2, if_neg h2]
section New
variable {y : Mi} {pc : Nat} {L : List (Option Value)} {st : List Value} {m : Mm} {K : Option Value ⊕ String → Mm → Prop}
theorem r_newk {i ci k : Nat} (hk : mN m = k) (d : decode y.2.1 pc = .ok (.new i, 3)) (hc : ci < 13) (hl : Cond.classLink y.1.cls i (clsOf ci).1 ∈ wsL_law) (hi : Cond.instantiable (clsOf ci).1 (clsOf ci).2.2 ∈ wsL_law) (hz : Cond.initialized (clsOf ci).1 ∈ wsL_law)
    (kk : V y (pc + 3) L (.ref k :: st) (mNew m ci 0 (clsOf ci).2.2) K) : V y pc L st m K := by
  subst hk
  exact r_new d hc hl hi hz kk
theorem r_newIk {k : Nat} {n : Int32} {N : Nat} (hk : mN m = k) (d : decode y.2.1 pc = .ok (.newarray .int, 2)) (hw : Cond.arrayClass .int ∈ wsL_law) (hn : ¬ n < 0) (hN : n.toNatClampNeg = N) (hb : N * 4 ≤ 536870912)
    (kk : V y (pc + 2) L (.ref k :: st) (mNew m 13 N N) K) : V y pc L (.int n :: st) m K := by
  subst hk
  exact r_newI d hw hn hN hb kk
theorem r_newZk {k : Nat} {n : Int32} {N : Nat} (hk : mN m = k) (d : decode y.2.1 pc = .ok (.newarray .boolean, 2)) (hw : Cond.arrayClass .boolean ∈ wsL_law) (hn : ¬ n < 0) (hN : n.toNatClampNeg = N) (hb : N * 1 ≤ 536870912)
    (kk : V y (pc + 2) L (.ref k :: st) (mNew m 14 N N) K) : V y pc L (.int n :: st) m K := by
  subst hk
  exact r_newZ d hw hn hN hb kk
theorem r_newRk {kd index k : Nat} {n : Int32} {N : Nat} (hk : mN m = k) (d : decode y.2.1 pc = .ok (.anewarray index, 3)) (h1 : 15 ≤ kd) (h2 : kd < 19) (hl : Cond.classLink y.1.cls index (clsOf (clsKd kd)).1 ∈ wsL_law) (hn : ¬ n < 0) (hN : n.toNatClampNeg = N) (hb : N * 4 ≤ 536870912)
    (kk : V y (pc + 3) L (.ref k :: st) (mNew m kd N N) K) : V y pc L (.int n :: st) m K := by
  subst hk
  exact r_newR d h1 h2 hl hn hN hb kk
theorem r_mnak {index k0 : Nat} {n k : Int32} {N K' : Nat} (hk0 : mN m = k0) (d : decode y.2.1 pc = .ok (.multianewarray index 2, 4)) (hl : Cond.classLink y.1.cls index "[[I" ∈ wsL_law) (hw : Cond.arrayClass .int ∈ wsL_law) (hn : ¬ n < 0) (hk : ¬ k < 0) (hN : n.toNatClampNeg = N) (hK' : k.toNatClampNeg = K') (hb : N * 4 ≤ 536870912) (hb2 : K' * 4 ≤ 536870912)
    (kk : V y (pc + 4) L (.ref k0 :: st) (mMna m N K') K) : V y pc L (.int k :: .int n :: st) m K := by
  subst hk0
  exact r_mna d hl hw hn hk hN hK' hb hb2 kk
end New
theorem oi_inst : Cond.instanceMethod Lib.objectInit ∈ wsL_law := (r1_law _ (List.mem_of_getElem? (i := 11) rfl))
theorem oi_code : Cond.code Lib.objectInit ⟨#[0xb1]⟩ 1 none ∈ wsL_law := (r1_law _ (List.mem_of_getElem? (i := 12) rfl))
theorem oi_X11 : Cond.methodLink RX11 3 Lib.objectInit ∈ wsL_law := (r1_law _ (List.mem_of_getElem? (i := 10) rfl))
theorem oi_X4 : Cond.methodLink RX4 3 Lib.objectInit ∈ wsL_law := (r2_law _ (List.mem_of_getElem? (i := 8) rfl))
theorem oi_X5 : Cond.methodLink RX5 3 Lib.objectInit ∈ wsL_law := (r2_law _ (List.mem_of_getElem? (i := 18) rfl))
theorem oi_X3 : Cond.methodLink RX3 3 Lib.objectInit ∈ wsL_law := (r3_law _ (List.mem_of_getElem? (i := 5) rfl))
theorem oi_X10 : Cond.methodLink RX10 3 Lib.objectInit ∈ wsL_law := (r4_law _ (List.mem_of_getElem? (i := 10) rfl))
theorem oi_X9 : Cond.methodLink RX9 3 Lib.objectInit ∈ wsL_law := (r5_law _ (List.mem_of_getElem? (i := 0) rfl))
theorem oi_X7 : Cond.methodLink RX7 3 Lib.objectInit ∈ wsL_law := (r5_law _ (List.mem_of_getElem? (i := 8) rfl))
theorem oi_X2 : Cond.methodLink RX2 3 Lib.objectInit ∈ wsL_law := (r5_law _ (List.mem_of_getElem? (i := 15) rfl))
theorem oi_X8 : Cond.methodLink RX8 3 Lib.objectInit ∈ wsL_law := (r6_law _ (List.mem_of_getElem? (i := 2) rfl))
theorem oi_X1 : Cond.methodLink RX1 3 Lib.objectInit ∈ wsL_law := (r6_law _ (List.mem_of_getElem? (i := 19) rfl))
theorem oi_X12 : Cond.methodLink RX12 1 Lib.objectInit ∈ wsL_law := (r7_law _ (List.mem_of_getElem? (i := 6) rfl))
theorem oi_X0 : Cond.methodLink RX0 3 Lib.objectInit ∈ wsL_law := (r17_law _ (List.mem_of_getElem? (i := 7) rfl))
theorem oi_X6 : Cond.methodLink RX6 3 Lib.objectInit ∈ wsL_law := (r17_law _ (List.mem_of_getElem? (i := 17) rfl))
theorem ac_int : Cond.arrayClass .int ∈ wsL_law := (r2_law _ (List.mem_of_getElem? (i := 9) rfl))
theorem ac_bool : Cond.arrayClass .boolean ∈ wsL_law := (r2_law _ (List.mem_of_getElem? (i := 20) rfl))
theorem cl_X11_9 : Cond.classLink RX11 9 "Choicepoint$Nodes" ∈ wsL_law := (r1_law _ (List.mem_of_getElem? (i := 13) rfl))
theorem cl_X11_16 : Cond.classLink RX11 16 "Choicepoint$Program" ∈ wsL_law := (r1_law _ (List.mem_of_getElem? (i := 17) rfl))
theorem cl_X11_23 : Cond.classLink RX11 23 "Choicepoint$Machine" ∈ wsL_law := (r1_law _ (List.mem_of_getElem? (i := 21) rfl))
theorem cl_X11_32 : Cond.classLink RX11 32 "Choicepoint$Searches" ∈ wsL_law := (r2_law _ (List.mem_of_getElem? (i := 1) rfl))
theorem cl_X1_15 : Cond.classLink RX1 15 "[[I" ∈ wsL_law := (r6_law _ (List.mem_of_getElem? (i := 21) rfl))
theorem cl_X3_9 : Cond.classLink RX3 9 "Choicepoint$Things" ∈ wsL_law := (r3_law _ (List.mem_of_getElem? (i := 6) rfl))
theorem cl_X3_18 : Cond.classLink RX3 18 "Choicepoint$Tasks" ∈ wsL_law := (r3_law _ (List.mem_of_getElem? (i := 10) rfl))
theorem cl_X3_25 : Cond.classLink RX3 25 "Choicepoint$Scope" ∈ wsL_law := (r3_law _ (List.mem_of_getElem? (i := 14) rfl))
theorem cl_X3_31 : Cond.classLink RX3 31 "Choicepoint$Level" ∈ wsL_law := (r3_law _ (List.mem_of_getElem? (i := 16) rfl))
theorem cl_X5_22 : Cond.classLink RX5 22 "Choicepoint$Rule" ∈ wsL_law := (r2_law _ (List.mem_of_getElem? (i := 23) rfl))
theorem cl_X8_9 : Cond.classLink RX8 9 "Choicepoint$Found" ∈ wsL_law := (r6_law _ (List.mem_of_getElem? (i := 3) rfl))
set_option maxHeartbeats 4000000 in
set_option maxRecDepth 100000 in
theorem i_X4 {g : Nat → Nat → Prop} {c z : Nat} {m : Mm} {K : Option Value ⊕ String → Mm → Prop} (hB : Bld 2 (fun a j => g a j ∨ a = 1) c z m) (hK : ∀ m', Bld 7 g (c + 5) (z + 400) m' → K (.inl none) m') : V m4_init 0 [some (.ref 1)] [] m K := by
  refine r_aload_n (y := m4_init) dX4_init_0 rfl rfl ?_
  refine r_objInit (y := m4_init) dX4_init_1 oi_X4 oi_inst oi_code (by decide) (Nat.le_of_ble_eq_true rfl) ?_
  refine r_aload_n (y := m4_init) dX4_init_4 rfl rfl ?_
  refine r_bipush (y := m4_init) (v := 80) dX4_init_5 (by decide) ?_
  refine r_newIk (y := m4_init) (k := 2) (N := 80) hB.1 dX4_init_7 ac_int (by decide) (by decide) (by decide) ?_
  replace hB := hB.arr (kd := 13) (len := 80) rfl (fun _ => rfl)
  generalize mNew m 13 80 80 = m at hB ⊢
  refine r_putRF (y := m4_init) (ci := 4) (j := 0) (ty := (.array .int)) dX4_init_9 (congrArg Prod.fst ((hB.kd (by omega)).trans (show shp 1 = (4, 0) from rfl))) (by decide) (by decide) (by decide) (r2_law _ (List.mem_of_getElem? (i := 10) rfl)) rfl rfl rfl (by decide +kernel) (fun _ => ⟨rfl, rfl⟩) ?_
  replace hB := hB.putR (a := 1) (j := 0) (b := 2) rfl
  generalize mSetR m 1 0 (some 2) = m at hB ⊢
  refine r_aload_n (y := m4_init) dX4_init_12 rfl rfl ?_
  refine r_bipush (y := m4_init) (v := 80) dX4_init_13 (by decide) ?_
  refine r_newIk (y := m4_init) (k := 3) (N := 80) hB.1 dX4_init_15 ac_int (by decide) (by decide) (by decide) ?_
  replace hB := hB.arr (kd := 13) (len := 80) rfl (fun _ => rfl)
  generalize mNew m 13 80 80 = m at hB ⊢
  refine r_putRF (y := m4_init) (ci := 4) (j := 1) (ty := (.array .int)) dX4_init_17 (congrArg Prod.fst ((hB.kd (by omega)).trans (show shp 1 = (4, 0) from rfl))) (by decide) (by decide) (by decide) (r2_law _ (List.mem_of_getElem? (i := 11) rfl)) rfl rfl rfl (by decide +kernel) (fun _ => ⟨rfl, rfl⟩) ?_
  replace hB := hB.putR (a := 1) (j := 1) (b := 3) rfl
  generalize mSetR m 1 1 (some 3) = m at hB ⊢
  refine r_aload_n (y := m4_init) dX4_init_20 rfl rfl ?_
  refine r_bipush (y := m4_init) (v := 80) dX4_init_21 (by decide) ?_
  refine r_newIk (y := m4_init) (k := 4) (N := 80) hB.1 dX4_init_23 ac_int (by decide) (by decide) (by decide) ?_
  replace hB := hB.arr (kd := 13) (len := 80) rfl (fun _ => rfl)
  generalize mNew m 13 80 80 = m at hB ⊢
  refine r_putRF (y := m4_init) (ci := 4) (j := 2) (ty := (.array .int)) dX4_init_25 (congrArg Prod.fst ((hB.kd (by omega)).trans (show shp 1 = (4, 0) from rfl))) (by decide) (by decide) (by decide) (r2_law _ (List.mem_of_getElem? (i := 12) rfl)) rfl rfl rfl (by decide +kernel) (fun _ => ⟨rfl, rfl⟩) ?_
  replace hB := hB.putR (a := 1) (j := 2) (b := 4) rfl
  generalize mSetR m 1 2 (some 4) = m at hB ⊢
  refine r_aload_n (y := m4_init) dX4_init_28 rfl rfl ?_
  refine r_bipush (y := m4_init) (v := 80) dX4_init_29 (by decide) ?_
  refine r_newIk (y := m4_init) (k := 5) (N := 80) hB.1 dX4_init_31 ac_int (by decide) (by decide) (by decide) ?_
  replace hB := hB.arr (kd := 13) (len := 80) rfl (fun _ => rfl)
  generalize mNew m 13 80 80 = m at hB ⊢
  refine r_putRF (y := m4_init) (ci := 4) (j := 3) (ty := (.array .int)) dX4_init_33 (congrArg Prod.fst ((hB.kd (by omega)).trans (show shp 1 = (4, 0) from rfl))) (by decide) (by decide) (by decide) (r2_law _ (List.mem_of_getElem? (i := 13) rfl)) rfl rfl rfl (by decide +kernel) (fun _ => ⟨rfl, rfl⟩) ?_
  replace hB := hB.putR (a := 1) (j := 3) (b := 5) rfl
  generalize mSetR m 1 3 (some 5) = m at hB ⊢
  refine r_aload_n (y := m4_init) dX4_init_36 rfl rfl ?_
  refine r_bipush (y := m4_init) (v := 80) dX4_init_37 (by decide) ?_
  refine r_newIk (y := m4_init) (k := 6) (N := 80) hB.1 dX4_init_39 ac_int (by decide) (by decide) (by decide) ?_
  replace hB := hB.arr (kd := 13) (len := 80) rfl (fun _ => rfl)
  generalize mNew m 13 80 80 = m at hB ⊢
  refine r_putRF (y := m4_init) (ci := 4) (j := 4) (ty := (.array .int)) dX4_init_41 (congrArg Prod.fst ((hB.kd (by omega)).trans (show shp 1 = (4, 0) from rfl))) (by decide) (by decide) (by decide) (r2_law _ (List.mem_of_getElem? (i := 14) rfl)) rfl rfl rfl (by decide +kernel) (fun _ => ⟨rfl, rfl⟩) ?_
  replace hB := hB.putR (a := 1) (j := 4) (b := 6) rfl
  generalize mSetR m 1 4 (some 6) = m at hB ⊢
  refine r_aload_n (y := m4_init) dX4_init_44 rfl rfl ?_
  refine r_iconst (y := m4_init) (v := 0) dX4_init_45 (by decide) ?_
  refine r_putI (y := m4_init) (ci := 4) (j := 5) (ty := .int) dX4_init_46 (congrArg Prod.fst ((hB.kd (by omega)).trans (show shp 1 = (4, 0) from rfl))) (by decide) (by decide) (by decide) (r2_law _ (List.mem_of_getElem? (i := 15) rfl)) rfl (by decide +kernel) rfl rfl ?_
  replace hB := hB.putI (a := 1) (j := 5) (v := 0) (Or.inr rfl)
  generalize mSetI m 1 5 0 = m at hB ⊢
  refine r_ret (y := m4_init) dX4_init_49 rfl (hK m (hB.close rfl (by omega) (by omega) (fun a j h => ?_)))
  have h0 : g a j ∨ a = 1 := h.1.1.1.1.1
  rcases h0 with q | q
  · exact Or.inl q
  · subst q
    exact Or.inr (by
      rcases j with _ | _ | _ | _ | _ | j
      all_goals first | rfl | (exfalso; simp at h))
theorem c_X4 {g : Nat → Nat → Prop} {c z : Nat} {m : Mm} (hB : Bld 2 (fun a j => g a j ∨ a = 1) c z m) : C m4_init [.ref 1] m (fun o m' => o = .inl none ∧ Bld 7 g (c + 5) (z + 400) m') :=
  C.of (L := [some (.ref 1)]) (by decide +kernel) (Nat.le_of_ble_eq_true rfl) rfl (i_X4 hB (fun _ h => ⟨rfl, h⟩))
set_option maxHeartbeats 4000000 in
set_option maxRecDepth 100000 in
theorem i_X5 {g : Nat → Nat → Prop} {c z : Nat} {m : Mm} {K : Option Value ⊕ String → Mm → Prop} (hB : Bld 8 (fun a j => g a j ∨ a = 7) c z m) (hK : ∀ m', Bld 12 g (c + 4) (z + 216) m' → K (.inl none) m') : V m5_init 0 [some (.ref 7)] [] m K := by
  refine r_aload_n (y := m5_init) dX5_init_0 rfl rfl ?_
  refine r_objInit (y := m5_init) dX5_init_1 oi_X5 oi_inst oi_code (by decide) (Nat.le_of_ble_eq_true rfl) ?_
  refine r_aload_n (y := m5_init) dX5_init_4 rfl rfl ?_
  refine r_bipush (y := m5_init) (v := 8) dX5_init_5 (by decide) ?_
  refine r_newIk (y := m5_init) (k := 8) (N := 8) hB.1 dX5_init_7 ac_int (by decide) (by decide) (by decide) ?_
  replace hB := hB.arr (kd := 13) (len := 8) rfl (fun _ => rfl)
  generalize mNew m 13 8 8 = m at hB ⊢
  refine r_putRF (y := m5_init) (ci := 5) (j := 0) (ty := (.array .int)) dX5_init_9 (congrArg Prod.fst ((hB.kd (by omega)).trans (show shp 7 = (5, 0) from rfl))) (by decide) (by decide) (by decide) (r2_law _ (List.mem_of_getElem? (i := 19) rfl)) rfl rfl rfl (by decide +kernel) (fun _ => ⟨rfl, rfl⟩) ?_
  replace hB := hB.putR (a := 7) (j := 0) (b := 8) rfl
  generalize mSetR m 7 0 (some 8) = m at hB ⊢
  refine r_aload_n (y := m5_init) dX5_init_12 rfl rfl ?_
  refine r_bipush (y := m5_init) (v := 8) dX5_init_13 (by decide) ?_
  refine r_newZk (y := m5_init) (k := 9) (N := 8) hB.1 dX5_init_15 ac_bool (by decide) (by decide) (by decide) ?_
  replace hB := hB.arr (kd := 14) (len := 8) rfl (fun _ => rfl)
  generalize mNew m 14 8 8 = m at hB ⊢
  refine r_putRF (y := m5_init) (ci := 5) (j := 1) (ty := (.array .boolean)) dX5_init_17 (congrArg Prod.fst ((hB.kd (by omega)).trans (show shp 7 = (5, 0) from rfl))) (by decide) (by decide) (by decide) (r2_law _ (List.mem_of_getElem? (i := 21) rfl)) rfl rfl rfl (by decide +kernel) (fun _ => ⟨rfl, rfl⟩) ?_
  replace hB := hB.putR (a := 7) (j := 1) (b := 9) rfl
  generalize mSetR m 7 1 (some 9) = m at hB ⊢
  refine r_aload_n (y := m5_init) dX5_init_20 rfl rfl ?_
  refine r_bipush (y := m5_init) (v := 8) dX5_init_21 (by decide) ?_
  refine r_newIk (y := m5_init) (k := 10) (N := 8) hB.1 dX5_init_23 ac_int (by decide) (by decide) (by decide) ?_
  replace hB := hB.arr (kd := 13) (len := 8) rfl (fun _ => rfl)
  generalize mNew m 13 8 8 = m at hB ⊢
  refine r_putRF (y := m5_init) (ci := 5) (j := 2) (ty := (.array .int)) dX5_init_25 (congrArg Prod.fst ((hB.kd (by omega)).trans (show shp 7 = (5, 0) from rfl))) (by decide) (by decide) (by decide) (r2_law _ (List.mem_of_getElem? (i := 22) rfl)) rfl rfl rfl (by decide +kernel) (fun _ => ⟨rfl, rfl⟩) ?_
  replace hB := hB.putR (a := 7) (j := 2) (b := 10) rfl
  generalize mSetR m 7 2 (some 10) = m at hB ⊢
  refine r_aload_n (y := m5_init) dX5_init_28 rfl rfl ?_
  refine r_sipush (y := m5_init) (v := 192) dX5_init_29 (by decide) ?_
  refine r_newRk (y := m5_init) (kd := 17) (k := 11) (N := 192) hB.1 dX5_init_32 (by decide) (by decide) cl_X5_22 (by decide) (by decide) (by decide) ?_
  replace hB := hB.arr (kd := 17) (len := 192) rfl (fun _ => rfl)
  generalize mNew m 17 192 192 = m at hB ⊢
  refine r_putRF (y := m5_init) (ci := 5) (j := 3) (ty := (.array (.object "Choicepoint$Rule"))) dX5_init_35 (congrArg Prod.fst ((hB.kd (by omega)).trans (show shp 7 = (5, 0) from rfl))) (by decide) (by decide) (by decide) (r3_law _ (List.mem_of_getElem? (i := 0) rfl)) rfl rfl rfl (by decide +kernel) (fun _ => ⟨rfl, rfl⟩) ?_
  replace hB := hB.putR (a := 7) (j := 3) (b := 11) rfl
  generalize mSetR m 7 3 (some 11) = m at hB ⊢
  refine r_aload_n (y := m5_init) dX5_init_38 rfl rfl ?_
  refine r_iconst (y := m5_init) (v := 0) dX5_init_39 (by decide) ?_
  refine r_putI (y := m5_init) (ci := 5) (j := 4) (ty := .int) dX5_init_40 (congrArg Prod.fst ((hB.kd (by omega)).trans (show shp 7 = (5, 0) from rfl))) (by decide) (by decide) (by decide) (r3_law _ (List.mem_of_getElem? (i := 1) rfl)) rfl (by decide +kernel) rfl rfl ?_
  replace hB := hB.putI (a := 7) (j := 4) (v := 0) (Or.inr rfl)
  generalize mSetI m 7 4 0 = m at hB ⊢
  refine r_aload_n (y := m5_init) dX5_init_43 rfl rfl ?_
  refine r_iconst (y := m5_init) (v := 0) dX5_init_44 (by decide) ?_
  refine r_putI (y := m5_init) (ci := 5) (j := 5) (ty := .int) dX5_init_45 (congrArg Prod.fst ((hB.kd (by omega)).trans (show shp 7 = (5, 0) from rfl))) (by decide) (by decide) (by decide) (r3_law _ (List.mem_of_getElem? (i := 2) rfl)) rfl (by decide +kernel) rfl rfl ?_
  replace hB := hB.putI (a := 7) (j := 5) (v := 0) (Or.inr rfl)
  generalize mSetI m 7 5 0 = m at hB ⊢
  refine r_ret (y := m5_init) dX5_init_48 rfl (hK m (hB.close rfl (by omega) (by omega) (fun a j h => ?_)))
  have h0 : g a j ∨ a = 7 := h.1.1.1.1
  rcases h0 with q | q
  · exact Or.inl q
  · subst q
    exact Or.inr (by
      rcases j with _ | _ | _ | _ | j
      all_goals first | rfl | (exfalso; simp at h))
theorem c_X5 {g : Nat → Nat → Prop} {c z : Nat} {m : Mm} (hB : Bld 8 (fun a j => g a j ∨ a = 7) c z m) : C m5_init [.ref 7] m (fun o m' => o = .inl none ∧ Bld 12 g (c + 4) (z + 216) m') :=
  C.of (L := [some (.ref 7)]) (by decide +kernel) (Nat.le_of_ble_eq_true rfl) rfl (i_X5 hB (fun _ h => ⟨rfl, h⟩))
set_option maxHeartbeats 4000000 in
set_option maxRecDepth 100000 in
theorem i_X10 {g : Nat → Nat → Prop} {c z : Nat} {m : Mm} {K : Option Value ⊕ String → Mm → Prop} (hB : Bld 14 (fun a j => g a j ∨ a = 13) c z m) (hK : ∀ m', Bld 23 g (c + 9) (z + 31500) m' → K (.inl none) m') : V m10_init 0 [some (.ref 13)] [] m K := by
  refine r_aload_n (y := m10_init) dX10_init_0 rfl rfl ?_
  refine r_objInit (y := m10_init) dX10_init_1 oi_X10 oi_inst oi_code (by decide) (Nat.le_of_ble_eq_true rfl) ?_
  refine r_aload_n (y := m10_init) dX10_init_4 rfl rfl ?_
  refine r_sipush (y := m10_init) (v := 3500) dX10_init_5 (by decide) ?_
  refine r_newIk (y := m10_init) (k := 14) (N := 3500) hB.1 dX10_init_8 ac_int (by decide) (by decide) (by decide) ?_
  replace hB := hB.arr (kd := 13) (len := 3500) rfl (fun _ => rfl)
  generalize mNew m 13 3500 3500 = m at hB ⊢
  refine r_putRF (y := m10_init) (ci := 10) (j := 0) (ty := (.array .int)) dX10_init_10 (congrArg Prod.fst ((hB.kd (by omega)).trans (show shp 13 = (10, 0) from rfl))) (by decide) (by decide) (by decide) (r4_law _ (List.mem_of_getElem? (i := 11) rfl)) rfl rfl rfl (by decide +kernel) (fun _ => ⟨rfl, rfl⟩) ?_
  replace hB := hB.putR (a := 13) (j := 0) (b := 14) rfl
  generalize mSetR m 13 0 (some 14) = m at hB ⊢
  refine r_aload_n (y := m10_init) dX10_init_13 rfl rfl ?_
  refine r_sipush (y := m10_init) (v := 3500) dX10_init_14 (by decide) ?_
  refine r_newIk (y := m10_init) (k := 15) (N := 3500) hB.1 dX10_init_17 ac_int (by decide) (by decide) (by decide) ?_
  replace hB := hB.arr (kd := 13) (len := 3500) rfl (fun _ => rfl)
  generalize mNew m 13 3500 3500 = m at hB ⊢
  refine r_putRF (y := m10_init) (ci := 10) (j := 1) (ty := (.array .int)) dX10_init_19 (congrArg Prod.fst ((hB.kd (by omega)).trans (show shp 13 = (10, 0) from rfl))) (by decide) (by decide) (by decide) (r4_law _ (List.mem_of_getElem? (i := 12) rfl)) rfl rfl rfl (by decide +kernel) (fun _ => ⟨rfl, rfl⟩) ?_
  replace hB := hB.putR (a := 13) (j := 1) (b := 15) rfl
  generalize mSetR m 13 1 (some 15) = m at hB ⊢
  refine r_aload_n (y := m10_init) dX10_init_22 rfl rfl ?_
  refine r_sipush (y := m10_init) (v := 3500) dX10_init_23 (by decide) ?_
  refine r_newIk (y := m10_init) (k := 16) (N := 3500) hB.1 dX10_init_26 ac_int (by decide) (by decide) (by decide) ?_
  replace hB := hB.arr (kd := 13) (len := 3500) rfl (fun _ => rfl)
  generalize mNew m 13 3500 3500 = m at hB ⊢
  refine r_putRF (y := m10_init) (ci := 10) (j := 2) (ty := (.array .int)) dX10_init_28 (congrArg Prod.fst ((hB.kd (by omega)).trans (show shp 13 = (10, 0) from rfl))) (by decide) (by decide) (by decide) (r4_law _ (List.mem_of_getElem? (i := 13) rfl)) rfl rfl rfl (by decide +kernel) (fun _ => ⟨rfl, rfl⟩) ?_
  replace hB := hB.putR (a := 13) (j := 2) (b := 16) rfl
  generalize mSetR m 13 2 (some 16) = m at hB ⊢
  refine r_aload_n (y := m10_init) dX10_init_31 rfl rfl ?_
  refine r_sipush (y := m10_init) (v := 3500) dX10_init_32 (by decide) ?_
  refine r_newIk (y := m10_init) (k := 17) (N := 3500) hB.1 dX10_init_35 ac_int (by decide) (by decide) (by decide) ?_
  replace hB := hB.arr (kd := 13) (len := 3500) rfl (fun _ => rfl)
  generalize mNew m 13 3500 3500 = m at hB ⊢
  refine r_putRF (y := m10_init) (ci := 10) (j := 3) (ty := (.array .int)) dX10_init_37 (congrArg Prod.fst ((hB.kd (by omega)).trans (show shp 13 = (10, 0) from rfl))) (by decide) (by decide) (by decide) (r4_law _ (List.mem_of_getElem? (i := 14) rfl)) rfl rfl rfl (by decide +kernel) (fun _ => ⟨rfl, rfl⟩) ?_
  replace hB := hB.putR (a := 13) (j := 3) (b := 17) rfl
  generalize mSetR m 13 3 (some 17) = m at hB ⊢
  refine r_aload_n (y := m10_init) dX10_init_40 rfl rfl ?_
  refine r_sipush (y := m10_init) (v := 3500) dX10_init_41 (by decide) ?_
  refine r_newIk (y := m10_init) (k := 18) (N := 3500) hB.1 dX10_init_44 ac_int (by decide) (by decide) (by decide) ?_
  replace hB := hB.arr (kd := 13) (len := 3500) rfl (fun _ => rfl)
  generalize mNew m 13 3500 3500 = m at hB ⊢
  refine r_putRF (y := m10_init) (ci := 10) (j := 4) (ty := (.array .int)) dX10_init_46 (congrArg Prod.fst ((hB.kd (by omega)).trans (show shp 13 = (10, 0) from rfl))) (by decide) (by decide) (by decide) (r4_law _ (List.mem_of_getElem? (i := 15) rfl)) rfl rfl rfl (by decide +kernel) (fun _ => ⟨rfl, rfl⟩) ?_
  replace hB := hB.putR (a := 13) (j := 4) (b := 18) rfl
  generalize mSetR m 13 4 (some 18) = m at hB ⊢
  refine r_aload_n (y := m10_init) dX10_init_49 rfl rfl ?_
  refine r_sipush (y := m10_init) (v := 3500) dX10_init_50 (by decide) ?_
  refine r_newIk (y := m10_init) (k := 19) (N := 3500) hB.1 dX10_init_53 ac_int (by decide) (by decide) (by decide) ?_
  replace hB := hB.arr (kd := 13) (len := 3500) rfl (fun _ => rfl)
  generalize mNew m 13 3500 3500 = m at hB ⊢
  refine r_putRF (y := m10_init) (ci := 10) (j := 5) (ty := (.array .int)) dX10_init_55 (congrArg Prod.fst ((hB.kd (by omega)).trans (show shp 13 = (10, 0) from rfl))) (by decide) (by decide) (by decide) (r4_law _ (List.mem_of_getElem? (i := 16) rfl)) rfl rfl rfl (by decide +kernel) (fun _ => ⟨rfl, rfl⟩) ?_
  replace hB := hB.putR (a := 13) (j := 5) (b := 19) rfl
  generalize mSetR m 13 5 (some 19) = m at hB ⊢
  refine r_aload_n (y := m10_init) dX10_init_58 rfl rfl ?_
  refine r_sipush (y := m10_init) (v := 3500) dX10_init_59 (by decide) ?_
  refine r_newIk (y := m10_init) (k := 20) (N := 3500) hB.1 dX10_init_62 ac_int (by decide) (by decide) (by decide) ?_
  replace hB := hB.arr (kd := 13) (len := 3500) rfl (fun _ => rfl)
  generalize mNew m 13 3500 3500 = m at hB ⊢
  refine r_putRF (y := m10_init) (ci := 10) (j := 6) (ty := (.array .int)) dX10_init_64 (congrArg Prod.fst ((hB.kd (by omega)).trans (show shp 13 = (10, 0) from rfl))) (by decide) (by decide) (by decide) (r4_law _ (List.mem_of_getElem? (i := 17) rfl)) rfl rfl rfl (by decide +kernel) (fun _ => ⟨rfl, rfl⟩) ?_
  replace hB := hB.putR (a := 13) (j := 6) (b := 20) rfl
  generalize mSetR m 13 6 (some 20) = m at hB ⊢
  refine r_aload_n (y := m10_init) dX10_init_67 rfl rfl ?_
  refine r_sipush (y := m10_init) (v := 3500) dX10_init_68 (by decide) ?_
  refine r_newIk (y := m10_init) (k := 21) (N := 3500) hB.1 dX10_init_71 ac_int (by decide) (by decide) (by decide) ?_
  replace hB := hB.arr (kd := 13) (len := 3500) rfl (fun _ => rfl)
  generalize mNew m 13 3500 3500 = m at hB ⊢
  refine r_putRF (y := m10_init) (ci := 10) (j := 7) (ty := (.array .int)) dX10_init_73 (congrArg Prod.fst ((hB.kd (by omega)).trans (show shp 13 = (10, 0) from rfl))) (by decide) (by decide) (by decide) (r4_law _ (List.mem_of_getElem? (i := 18) rfl)) rfl rfl rfl (by decide +kernel) (fun _ => ⟨rfl, rfl⟩) ?_
  replace hB := hB.putR (a := 13) (j := 7) (b := 21) rfl
  generalize mSetR m 13 7 (some 21) = m at hB ⊢
  refine r_aload_n (y := m10_init) dX10_init_76 rfl rfl ?_
  refine r_sipush (y := m10_init) (v := 3500) dX10_init_77 (by decide) ?_
  refine r_newIk (y := m10_init) (k := 22) (N := 3500) hB.1 dX10_init_80 ac_int (by decide) (by decide) (by decide) ?_
  replace hB := hB.arr (kd := 13) (len := 3500) rfl (fun _ => rfl)
  generalize mNew m 13 3500 3500 = m at hB ⊢
  refine r_putRF (y := m10_init) (ci := 10) (j := 8) (ty := (.array .int)) dX10_init_82 (congrArg Prod.fst ((hB.kd (by omega)).trans (show shp 13 = (10, 0) from rfl))) (by decide) (by decide) (by decide) (r4_law _ (List.mem_of_getElem? (i := 19) rfl)) rfl rfl rfl (by decide +kernel) (fun _ => ⟨rfl, rfl⟩) ?_
  replace hB := hB.putR (a := 13) (j := 8) (b := 22) rfl
  generalize mSetR m 13 8 (some 22) = m at hB ⊢
  refine r_aload_n (y := m10_init) dX10_init_85 rfl rfl ?_
  refine r_iconst (y := m10_init) (v := 0) dX10_init_86 (by decide) ?_
  refine r_putI (y := m10_init) (ci := 10) (j := 9) (ty := .int) dX10_init_87 (congrArg Prod.fst ((hB.kd (by omega)).trans (show shp 13 = (10, 0) from rfl))) (by decide) (by decide) (by decide) (r4_law _ (List.mem_of_getElem? (i := 20) rfl)) rfl (by decide +kernel) rfl rfl ?_
  replace hB := hB.putI (a := 13) (j := 9) (v := 0) (Or.inr rfl)
  generalize mSetI m 13 9 0 = m at hB ⊢
  refine r_aload_n (y := m10_init) dX10_init_90 rfl rfl ?_
  refine r_iconst (y := m10_init) (v := 0) dX10_init_91 (by decide) ?_
  refine r_putI (y := m10_init) (ci := 10) (j := 10) (ty := .int) dX10_init_92 (congrArg Prod.fst ((hB.kd (by omega)).trans (show shp 13 = (10, 0) from rfl))) (by decide) (by decide) (by decide) (r4_law _ (List.mem_of_getElem? (i := 21) rfl)) rfl (by decide +kernel) rfl rfl ?_
  replace hB := hB.putI (a := 13) (j := 10) (v := 0) (Or.inr rfl)
  generalize mSetI m 13 10 0 = m at hB ⊢
  refine r_ret (y := m10_init) dX10_init_95 rfl (hK m (hB.close rfl (by omega) (by omega) (fun a j h => ?_)))
  have h0 : g a j ∨ a = 13 := h.1.1.1.1.1.1.1.1.1
  rcases h0 with q | q
  · exact Or.inl q
  · subst q
    exact Or.inr (by
      rcases j with _ | _ | _ | _ | _ | _ | _ | _ | _ | j
      all_goals first | rfl | (exfalso; simp at h))
theorem c_X10 {g : Nat → Nat → Prop} {c z : Nat} {m : Mm} (hB : Bld 14 (fun a j => g a j ∨ a = 13) c z m) : C m10_init [.ref 13] m (fun o m' => o = .inl none ∧ Bld 23 g (c + 9) (z + 31500) m') :=
  C.of (L := [some (.ref 13)]) (by decide +kernel) (Nat.le_of_ble_eq_true rfl) rfl (i_X10 hB (fun _ h => ⟨rfl, h⟩))
set_option maxHeartbeats 4000000 in
set_option maxRecDepth 100000 in
theorem i_X9 {g : Nat → Nat → Prop} {c z : Nat} {m : Mm} {K : Option Value ⊕ String → Mm → Prop} (hB : Bld 24 (fun a j => g a j ∨ a = 23) c z m) (hK : ∀ m', Bld 28 g (c + 4) (z + 20000) m' → K (.inl none) m') : V m9_init 0 [some (.ref 23)] [] m K := by
  refine r_aload_n (y := m9_init) dX9_init_0 rfl rfl ?_
  refine r_objInit (y := m9_init) dX9_init_1 oi_X9 oi_inst oi_code (by decide) (Nat.le_of_ble_eq_true rfl) ?_
  refine r_aload_n (y := m9_init) dX9_init_4 rfl rfl ?_
  refine r_sipush (y := m9_init) (v := 5000) dX9_init_5 (by decide) ?_
  refine r_newIk (y := m9_init) (k := 24) (N := 5000) hB.1 dX9_init_8 ac_int (by decide) (by decide) (by decide) ?_
  replace hB := hB.arr (kd := 13) (len := 5000) rfl (fun _ => rfl)
  generalize mNew m 13 5000 5000 = m at hB ⊢
  refine r_putRF (y := m9_init) (ci := 9) (j := 0) (ty := (.array .int)) dX9_init_10 (congrArg Prod.fst ((hB.kd (by omega)).trans (show shp 23 = (9, 0) from rfl))) (by decide) (by decide) (by decide) (r5_law _ (List.mem_of_getElem? (i := 1) rfl)) rfl rfl rfl (by decide +kernel) (fun _ => ⟨rfl, rfl⟩) ?_
  replace hB := hB.putR (a := 23) (j := 0) (b := 24) rfl
  generalize mSetR m 23 0 (some 24) = m at hB ⊢
  refine r_aload_n (y := m9_init) dX9_init_13 rfl rfl ?_
  refine r_sipush (y := m9_init) (v := 5000) dX9_init_14 (by decide) ?_
  refine r_newIk (y := m9_init) (k := 25) (N := 5000) hB.1 dX9_init_17 ac_int (by decide) (by decide) (by decide) ?_
  replace hB := hB.arr (kd := 13) (len := 5000) rfl (fun _ => rfl)
  generalize mNew m 13 5000 5000 = m at hB ⊢
  refine r_putRF (y := m9_init) (ci := 9) (j := 1) (ty := (.array .int)) dX9_init_19 (congrArg Prod.fst ((hB.kd (by omega)).trans (show shp 23 = (9, 0) from rfl))) (by decide) (by decide) (by decide) (r5_law _ (List.mem_of_getElem? (i := 2) rfl)) rfl rfl rfl (by decide +kernel) (fun _ => ⟨rfl, rfl⟩) ?_
  replace hB := hB.putR (a := 23) (j := 1) (b := 25) rfl
  generalize mSetR m 23 1 (some 25) = m at hB ⊢
  refine r_aload_n (y := m9_init) dX9_init_22 rfl rfl ?_
  refine r_sipush (y := m9_init) (v := 5000) dX9_init_23 (by decide) ?_
  refine r_newIk (y := m9_init) (k := 26) (N := 5000) hB.1 dX9_init_26 ac_int (by decide) (by decide) (by decide) ?_
  replace hB := hB.arr (kd := 13) (len := 5000) rfl (fun _ => rfl)
  generalize mNew m 13 5000 5000 = m at hB ⊢
  refine r_putRF (y := m9_init) (ci := 9) (j := 2) (ty := (.array .int)) dX9_init_28 (congrArg Prod.fst ((hB.kd (by omega)).trans (show shp 23 = (9, 0) from rfl))) (by decide) (by decide) (by decide) (r5_law _ (List.mem_of_getElem? (i := 3) rfl)) rfl rfl rfl (by decide +kernel) (fun _ => ⟨rfl, rfl⟩) ?_
  replace hB := hB.putR (a := 23) (j := 2) (b := 26) rfl
  generalize mSetR m 23 2 (some 26) = m at hB ⊢
  refine r_aload_n (y := m9_init) dX9_init_31 rfl rfl ?_
  refine r_sipush (y := m9_init) (v := 5000) dX9_init_32 (by decide) ?_
  refine r_newIk (y := m9_init) (k := 27) (N := 5000) hB.1 dX9_init_35 ac_int (by decide) (by decide) (by decide) ?_
  replace hB := hB.arr (kd := 13) (len := 5000) rfl (fun _ => rfl)
  generalize mNew m 13 5000 5000 = m at hB ⊢
  refine r_putRF (y := m9_init) (ci := 9) (j := 3) (ty := (.array .int)) dX9_init_37 (congrArg Prod.fst ((hB.kd (by omega)).trans (show shp 23 = (9, 0) from rfl))) (by decide) (by decide) (by decide) (r5_law _ (List.mem_of_getElem? (i := 4) rfl)) rfl rfl rfl (by decide +kernel) (fun _ => ⟨rfl, rfl⟩) ?_
  replace hB := hB.putR (a := 23) (j := 3) (b := 27) rfl
  generalize mSetR m 23 3 (some 27) = m at hB ⊢
  refine r_aload_n (y := m9_init) dX9_init_40 rfl rfl ?_
  refine r_iconst (y := m9_init) (v := 0) dX9_init_41 (by decide) ?_
  refine r_putI (y := m9_init) (ci := 9) (j := 4) (ty := .int) dX9_init_42 (congrArg Prod.fst ((hB.kd (by omega)).trans (show shp 23 = (9, 0) from rfl))) (by decide) (by decide) (by decide) (r5_law _ (List.mem_of_getElem? (i := 5) rfl)) rfl (by decide +kernel) rfl rfl ?_
  replace hB := hB.putI (a := 23) (j := 4) (v := 0) (Or.inr rfl)
  generalize mSetI m 23 4 0 = m at hB ⊢
  refine r_ret (y := m9_init) dX9_init_45 rfl (hK m (hB.close rfl (by omega) (by omega) (fun a j h => ?_)))
  have h0 : g a j ∨ a = 23 := h.1.1.1.1
  rcases h0 with q | q
  · exact Or.inl q
  · subst q
    exact Or.inr (by
      rcases j with _ | _ | _ | _ | j
      all_goals first | rfl | (exfalso; simp at h))
theorem c_X9 {g : Nat → Nat → Prop} {c z : Nat} {m : Mm} (hB : Bld 24 (fun a j => g a j ∨ a = 23) c z m) : C m9_init [.ref 23] m (fun o m' => o = .inl none ∧ Bld 28 g (c + 4) (z + 20000) m') :=
  C.of (L := [some (.ref 23)]) (by decide +kernel) (Nat.le_of_ble_eq_true rfl) rfl (i_X9 hB (fun _ h => ⟨rfl, h⟩))
set_option maxHeartbeats 4000000 in
set_option maxRecDepth 100000 in
theorem i_X7 {g : Nat → Nat → Prop} {c z : Nat} {m : Mm} {K : Option Value ⊕ String → Mm → Prop} {i : Nat} (hi : i < 102) (hB : Bld (32 + 2 * i) (fun a j => g a j ∨ a = (31 + 2 * i)) c z m) (hK : ∀ m', Bld (33 + 2 * i) g (c + 1) (z + 6) m' → K (.inl none) m') : V m7_init 0 [some (.ref (31 + 2 * i))] [] m K := by
  refine r_aload_n (y := m7_init) dX7_init_0 rfl rfl ?_
  refine r_objInit (y := m7_init) dX7_init_1 oi_X7 oi_inst oi_code (by decide) (Nat.le_of_ble_eq_true rfl) ?_
  refine r_aload_n (y := m7_init) dX7_init_4 rfl rfl ?_
  refine r_bipush (y := m7_init) (v := 6) dX7_init_5 (by decide) ?_
  refine r_newIk (y := m7_init) (k := (32 + 2 * i)) (N := 6) hB.1 dX7_init_7 ac_int (by decide) (by decide) (by decide) ?_
  replace hB := hB.arr (kd := 13) (len := 6) (sh_sc hi).2 (fun _ => (st_sc hi).2)
  generalize mNew m 13 6 6 = m at hB ⊢
  replace hB := hB.close (k' := (33 + 2 * i)) (by omega) rfl rfl (fun _ _ q => Or.inl q)
  refine r_putRF (y := m7_init) (ci := 7) (j := 0) (ty := (.array .int)) dX7_init_9 (congrArg Prod.fst ((hB.kd (by omega)).trans (sh_sc hi).1)) (by decide) (by decide) (by decide) (r5_law _ (List.mem_of_getElem? (i := 9) rfl)) rfl rfl rfl (by decide +kernel) (fun _ => ⟨rfl, rfl⟩) ?_
  replace hB := hB.putR (a := (31 + 2 * i)) (j := 0) (b := (32 + 2 * i)) ((st_sc hi).1.trans (if_pos rfl))
  generalize mSetR m (31 + 2 * i) 0 (some (32 + 2 * i)) = m at hB ⊢
  refine r_aload_n (y := m7_init) dX7_init_12 rfl rfl ?_
  refine r_null (y := m7_init) dX7_init_13 ?_
  refine r_putRN0 (y := m7_init) (ci := 7) (j := 1) (ty := (.object "Choicepoint$Expression")) dX7_init_14 (congrArg Prod.fst ((hB.kd (by omega)).trans (sh_sc hi).1)) (by decide) (by decide) (by decide) (r5_law _ (List.mem_of_getElem? (i := 10) rfl)) rfl (by decide +kernel) ⟨rfl, rfl⟩ ?_
  replace hB := hB.putN (a := (31 + 2 * i)) (j := 1) ((st_sc hi).1.trans (if_neg (by decide)))
  generalize mSetR m (31 + 2 * i) 1 none = m at hB ⊢
  refine r_aload_n (y := m7_init) dX7_init_17 rfl rfl ?_
  refine r_null (y := m7_init) dX7_init_18 ?_
  refine r_putRN0 (y := m7_init) (ci := 7) (j := 2) (ty := (.object "Choicepoint$Expression")) dX7_init_19 (congrArg Prod.fst ((hB.kd (by omega)).trans (sh_sc hi).1)) (by decide) (by decide) (by decide) (r5_law _ (List.mem_of_getElem? (i := 11) rfl)) rfl (by decide +kernel) ⟨rfl, rfl⟩ ?_
  replace hB := hB.putN (a := (31 + 2 * i)) (j := 2) ((st_sc hi).1.trans (if_neg (by decide)))
  generalize mSetR m (31 + 2 * i) 2 none = m at hB ⊢
  refine r_aload_n (y := m7_init) dX7_init_22 rfl rfl ?_
  refine r_null (y := m7_init) dX7_init_23 ?_
  refine r_putRN0 (y := m7_init) (ci := 7) (j := 3) (ty := (.object "Choicepoint$Expression")) dX7_init_24 (congrArg Prod.fst ((hB.kd (by omega)).trans (sh_sc hi).1)) (by decide) (by decide) (by decide) (r5_law _ (List.mem_of_getElem? (i := 12) rfl)) rfl (by decide +kernel) ⟨rfl, rfl⟩ ?_
  replace hB := hB.putN (a := (31 + 2 * i)) (j := 3) ((st_sc hi).1.trans (if_neg (by decide)))
  generalize mSetR m (31 + 2 * i) 3 none = m at hB ⊢
  refine r_ret (y := m7_init) dX7_init_27 rfl (hK m (hB.close rfl (by omega) (by omega) (fun a j h => ?_)))
  have h0 : g a j ∨ a = (31 + 2 * i) := h.1
  rcases h0 with q | q
  · exact Or.inl q
  · subst q
    refine Or.inr ((st_sc hi).1.trans (if_neg (fun e => ?_)))
    exact h.2 ⟨rfl, e⟩
theorem c_X7 {g : Nat → Nat → Prop} {c z : Nat} {m : Mm} {i : Nat} (hi : i < 102) (hB : Bld (32 + 2 * i) (fun a j => g a j ∨ a = (31 + 2 * i)) c z m) : C m7_init [.ref (31 + 2 * i)] m (fun o m' => o = .inl none ∧ Bld (33 + 2 * i) g (c + 1) (z + 6) m') :=
  C.of (L := [some (.ref (31 + 2 * i))]) (by decide +kernel) (Nat.le_of_ble_eq_true rfl) rfl (i_X7 hi hB (fun _ h => ⟨rfl, h⟩))
set_option maxHeartbeats 4000000 in
set_option maxRecDepth 100000 in
theorem i_X2 {g : Nat → Nat → Prop} {c z : Nat} {m : Mm} {K : Option Value ⊕ String → Mm → Prop} {i : Nat} (hi : i < 102) (hB : Bld (236 + 3 * i) (fun a j => g a j ∨ a = (235 + 3 * i)) c z m) (hK : ∀ m', Bld (238 + 3 * i) g (c + 2) (z + 80) m' → K (.inl none) m') : V m2_init 0 [some (.ref (235 + 3 * i))] [] m K := by
  refine r_aload_n (y := m2_init) dX2_init_0 rfl rfl ?_
  refine r_objInit (y := m2_init) dX2_init_1 oi_X2 oi_inst oi_code (by decide) (Nat.le_of_ble_eq_true rfl) ?_
  refine r_aload_n (y := m2_init) dX2_init_4 rfl rfl ?_
  refine r_bipush (y := m2_init) (v := 40) dX2_init_5 (by decide) ?_
  refine r_newIk (y := m2_init) (k := (236 + 3 * i)) (N := 40) hB.1 dX2_init_7 ac_int (by decide) (by decide) (by decide) ?_
  replace hB := hB.arr (kd := 13) (len := 40) (sh_lv hi).2.1 (fun _ => (st_lv hi).2.1)
  generalize mNew m 13 40 40 = m at hB ⊢
  replace hB := hB.close (k' := (237 + 3 * i)) (by omega) rfl rfl (fun _ _ q => Or.inl q)
  refine r_putRF (y := m2_init) (ci := 2) (j := 0) (ty := (.array .int)) dX2_init_9 (congrArg Prod.fst ((hB.kd (by omega)).trans (sh_lv hi).1)) (by decide) (by decide) (by decide) (r5_law _ (List.mem_of_getElem? (i := 16) rfl)) rfl rfl rfl (by decide +kernel) (fun _ => ⟨rfl, rfl⟩) ?_
  replace hB := hB.putR (a := (235 + 3 * i)) (j := 0) (b := (236 + 3 * i)) (by rw [(st_lv (j := 0) hi).1, if_pos (by decide)]; first | rfl | exact congrArg some (by omega))
  generalize mSetR m (235 + 3 * i) 0 (some (236 + 3 * i)) = m at hB ⊢
  refine r_aload_n (y := m2_init) dX2_init_12 rfl rfl ?_
  refine r_bipush (y := m2_init) (v := 40) dX2_init_13 (by decide) ?_
  refine r_newIk (y := m2_init) (k := (237 + 3 * i)) (N := 40) hB.1 dX2_init_15 ac_int (by decide) (by decide) (by decide) ?_
  replace hB := hB.arr (kd := 13) (len := 40) (sh_lv hi).2.2 (fun _ => (st_lv hi).2.2)
  generalize mNew m 13 40 40 = m at hB ⊢
  replace hB := hB.close (k' := (238 + 3 * i)) (by omega) rfl rfl (fun _ _ q => Or.inl q)
  refine r_putRF (y := m2_init) (ci := 2) (j := 1) (ty := (.array .int)) dX2_init_17 (congrArg Prod.fst ((hB.kd (by omega)).trans (sh_lv hi).1)) (by decide) (by decide) (by decide) (r5_law _ (List.mem_of_getElem? (i := 17) rfl)) rfl rfl rfl (by decide +kernel) (fun _ => ⟨rfl, rfl⟩) ?_
  replace hB := hB.putR (a := (235 + 3 * i)) (j := 1) (b := (237 + 3 * i)) (by rw [(st_lv (j := 1) hi).1, if_pos (by decide)]; first | rfl | exact congrArg some (by omega))
  generalize mSetR m (235 + 3 * i) 1 (some (237 + 3 * i)) = m at hB ⊢
  refine r_aload_n (y := m2_init) dX2_init_20 rfl rfl ?_
  refine r_iconst (y := m2_init) (v := 0) dX2_init_21 (by decide) ?_
  refine r_putI (y := m2_init) (ci := 2) (j := 2) (ty := .int) dX2_init_22 (congrArg Prod.fst ((hB.kd (by omega)).trans (sh_lv hi).1)) (by decide) (by decide) (by decide) (r5_law _ (List.mem_of_getElem? (i := 18) rfl)) rfl (by decide +kernel) rfl rfl ?_
  replace hB := hB.putI (a := (235 + 3 * i)) (j := 2) (v := 0) (Or.inr rfl)
  generalize mSetI m (235 + 3 * i) 2 0 = m at hB ⊢
  refine r_aload_n (y := m2_init) dX2_init_25 rfl rfl ?_
  refine r_iconst (y := m2_init) (v := 0) dX2_init_26 (by decide) ?_
  refine r_putI (y := m2_init) (ci := 2) (j := 3) (ty := .int) dX2_init_27 (congrArg Prod.fst ((hB.kd (by omega)).trans (sh_lv hi).1)) (by decide) (by decide) (by decide) (r5_law _ (List.mem_of_getElem? (i := 19) rfl)) rfl (by decide +kernel) rfl rfl ?_
  replace hB := hB.putI (a := (235 + 3 * i)) (j := 3) (v := 0) (Or.inr rfl)
  generalize mSetI m (235 + 3 * i) 3 0 = m at hB ⊢
  refine r_aload_n (y := m2_init) dX2_init_30 rfl rfl ?_
  refine r_iconst (y := m2_init) (v := 0) dX2_init_31 (by decide) ?_
  refine r_putI (y := m2_init) (ci := 2) (j := 4) (ty := .int) dX2_init_32 (congrArg Prod.fst ((hB.kd (by omega)).trans (sh_lv hi).1)) (by decide) (by decide) (by decide) (r5_law _ (List.mem_of_getElem? (i := 20) rfl)) rfl (by decide +kernel) rfl rfl ?_
  replace hB := hB.putI (a := (235 + 3 * i)) (j := 4) (v := 0) (Or.inr rfl)
  generalize mSetI m (235 + 3 * i) 4 0 = m at hB ⊢
  refine r_aload_n (y := m2_init) dX2_init_35 rfl rfl ?_
  refine r_iconst (y := m2_init) (v := (-1)) dX2_init_36 (by decide) ?_
  refine r_putI (y := m2_init) (ci := 2) (j := 5) (ty := .int) dX2_init_37 (congrArg Prod.fst ((hB.kd (by omega)).trans (sh_lv hi).1)) (by decide) (by decide) (by decide) (r5_law _ (List.mem_of_getElem? (i := 21) rfl)) rfl (by decide +kernel) rfl rfl ?_
  replace hB := hB.putI (a := (235 + 3 * i)) (j := 5) (v := (-1)) (Or.inl (by unfold dirty; simp; omega))
  generalize mSetI m (235 + 3 * i) 5 (-1) = m at hB ⊢
  refine r_aload_n (y := m2_init) dX2_init_40 rfl rfl ?_
  refine r_iconst (y := m2_init) (v := 0) dX2_init_41 (by decide) ?_
  refine r_putI (y := m2_init) (ci := 2) (j := 6) (ty := .int) dX2_init_42 (congrArg Prod.fst ((hB.kd (by omega)).trans (sh_lv hi).1)) (by decide) (by decide) (by decide) (r5_law _ (List.mem_of_getElem? (i := 22) rfl)) rfl (by decide +kernel) rfl rfl ?_
  replace hB := hB.putI (a := (235 + 3 * i)) (j := 6) (v := 0) (Or.inr rfl)
  generalize mSetI m (235 + 3 * i) 6 0 = m at hB ⊢
  refine r_aload_n (y := m2_init) dX2_init_45 rfl rfl ?_
  refine r_iconst (y := m2_init) (v := 0) dX2_init_46 (by decide) ?_
  refine r_putI (y := m2_init) (ci := 2) (j := 7) (ty := .int) dX2_init_47 (congrArg Prod.fst ((hB.kd (by omega)).trans (sh_lv hi).1)) (by decide) (by decide) (by decide) (r5_law _ (List.mem_of_getElem? (i := 23) rfl)) rfl (by decide +kernel) rfl rfl ?_
  replace hB := hB.putI (a := (235 + 3 * i)) (j := 7) (v := 0) (Or.inr rfl)
  generalize mSetI m (235 + 3 * i) 7 0 = m at hB ⊢
  refine r_ret (y := m2_init) dX2_init_50 rfl (hK m (hB.close rfl (by omega) (by omega) (fun a j h => ?_)))
  have h0 : g a j ∨ a = (235 + 3 * i) := h.1.1
  rcases h0 with q | q
  · exact Or.inl q
  · subst q
    refine Or.inr ((st_lv hi).1.trans (if_neg (fun e => ?_)))
    rcases (show j = 0 ∨ j = 1 by omega) with rfl | rfl
    · exact h.1.2 ⟨rfl, rfl⟩
    · exact h.2 ⟨rfl, rfl⟩
theorem c_X2 {g : Nat → Nat → Prop} {c z : Nat} {m : Mm} {i : Nat} (hi : i < 102) (hB : Bld (236 + 3 * i) (fun a j => g a j ∨ a = (235 + 3 * i)) c z m) : C m2_init [.ref (235 + 3 * i)] m (fun o m' => o = .inl none ∧ Bld (238 + 3 * i) g (c + 2) (z + 80) m') :=
  C.of (L := [some (.ref (235 + 3 * i))]) (by decide +kernel) (Nat.le_of_ble_eq_true rfl) rfl (i_X2 hi hB (fun _ h => ⟨rfl, h⟩))
set_option maxHeartbeats 4000000 in
set_option maxRecDepth 100000 in
theorem i_X1 {g : Nat → Nat → Prop} {c z : Nat} {m : Mm} {K : Option Value ⊕ String → Mm → Prop} {i : Nat} (hi : i < 10) (hB : Bld (548 + 12 * i + 1) (fun a j => g a j ∨ a = (548 + 12 * i + 0)) c z m) (hK : ∀ m', Bld (560 + 12 * i) g (c + 11) (z + 408) m' → K (.inl none) m') : V m1_init 0 [some (.ref (548 + 12 * i + 0))] [] m K := by
  refine r_aload_n (y := m1_init) dX1_init_0 rfl rfl ?_
  refine r_objInit (y := m1_init) dX1_init_1 oi_X1 oi_inst oi_code (by decide) (Nat.le_of_ble_eq_true rfl) ?_
  refine r_aload_n (y := m1_init) dX1_init_4 rfl rfl ?_
  refine r_bipush (y := m1_init) (v := 40) dX1_init_5 (by decide) ?_
  refine r_newIk (y := m1_init) (k := (548 + 12 * i + 1)) (N := 40) hB.1 dX1_init_7 ac_int (by decide) (by decide) (by decide) ?_
  replace hB := hB.arr (kd := 13) (len := 40) (sh_fo hi (k := 1) (by decide)) (fun j => by rw [st_fo hi (k := 1) (by decide), if_neg (by decide), if_neg (by omega)])
  generalize mNew m 13 40 40 = m at hB ⊢
  replace hB := hB.close (k' := (548 + 12 * i + 2)) (by omega) rfl rfl (fun _ _ q => Or.inl q)
  refine r_putRF (y := m1_init) (ci := 1) (j := 0) (ty := (.array .int)) dX1_init_9 (congrArg Prod.fst ((hB.kd (by omega)).trans (show shp (548 + 12 * i + 0) = (1, 0) from sh_fo hi (k := 0) (by decide)))) (by decide) (by decide) (by decide) (r6_law _ (List.mem_of_getElem? (i := 20) rfl)) rfl rfl rfl (by decide +kernel) (fun _ => ⟨rfl, rfl⟩) ?_
  replace hB := hB.putR (a := (548 + 12 * i + 0)) (j := 0) (b := (548 + 12 * i + 1)) ((st_fo hi (k := 0) (by decide)).trans (if_pos rfl))
  generalize mSetR m (548 + 12 * i + 0) 0 (some (548 + 12 * i + 1)) = m at hB ⊢
  refine r_aload_n (y := m1_init) dX1_init_12 rfl rfl ?_
  refine r_bipush (y := m1_init) (v := 6) dX1_init_13 (by decide) ?_
  refine r_bipush (y := m1_init) (v := 40) dX1_init_15 (by decide) ?_
  refine r_mnak (y := m1_init) (k0 := (548 + 12 * i + 2)) (N := 6) (K' := 40) hB.1 dX1_init_17 cl_X1_15 ac_int (by decide) (by decide) (by decide) (by decide) (by decide) (by decide) ?_
  replace hB := hB.mna (N := 6) (K := 40) (sh_fo hi (k := 2) (by decide)) (fun q hq => (show shp ((548 + 12 * i + 2) + 1 + q) = _ from by rw [show (548 + 12 * i + 2) + 1 + q = 548 + 12 * i + (3 + q) by omega, sh_fo hi (by omega)]; rcases (show q = 0 ∨ q = 1 ∨ q = 2 ∨ q = 3 ∨ q = 4 ∨ q = 5 by omega) with rfl | rfl | rfl | rfl | rfl | rfl <;> rfl)) (fun j => by rw [st_fo hi (by decide), if_neg (by decide)]; by_cases h : j < 6 <;> simp [h] <;> omega) (fun q j hq => by rw [show (548 + 12 * i + 2) + 1 + q = 548 + 12 * i + (3 + q) by omega, st_fo hi (by omega), if_neg (by omega), if_neg (by omega)])
  generalize mMna m 6 40 = m at hB ⊢
  replace hB := hB.close (k' := (548 + 12 * i + 9)) (by omega) rfl rfl (fun _ _ q => Or.inl q)
  refine r_putRF (y := m1_init) (ci := 1) (j := 1) (ty := (.array (.array .int))) dX1_init_21 (congrArg Prod.fst ((hB.kd (by omega)).trans (show shp (548 + 12 * i + 0) = (1, 0) from sh_fo hi (k := 0) (by decide)))) (by decide) (by decide) (by decide) (r6_law _ (List.mem_of_getElem? (i := 22) rfl)) rfl rfl rfl (by decide +kernel) (fun _ => ⟨rfl, rfl⟩) ?_
  replace hB := hB.putR (a := (548 + 12 * i + 0)) (j := 1) (b := (548 + 12 * i + 2)) ((st_fo hi (k := 0) (by decide)).trans (if_pos rfl))
  generalize mSetR m (548 + 12 * i + 0) 1 (some (548 + 12 * i + 2)) = m at hB ⊢
  refine r_aload_n (y := m1_init) dX1_init_24 rfl rfl ?_
  refine r_bipush (y := m1_init) (v := 40) dX1_init_25 (by decide) ?_
  refine r_newIk (y := m1_init) (k := (548 + 12 * i + 9)) (N := 40) hB.1 dX1_init_27 ac_int (by decide) (by decide) (by decide) ?_
  replace hB := hB.arr (kd := 13) (len := 40) (sh_fo hi (k := 9) (by decide)) (fun j => by rw [st_fo hi (k := 9) (by decide), if_neg (by decide), if_neg (by omega)])
  generalize mNew m 13 40 40 = m at hB ⊢
  replace hB := hB.close (k' := (548 + 12 * i + 10)) (by omega) rfl rfl (fun _ _ q => Or.inl q)
  refine r_putRF (y := m1_init) (ci := 1) (j := 2) (ty := (.array .int)) dX1_init_29 (congrArg Prod.fst ((hB.kd (by omega)).trans (show shp (548 + 12 * i + 0) = (1, 0) from sh_fo hi (k := 0) (by decide)))) (by decide) (by decide) (by decide) (r6_law _ (List.mem_of_getElem? (i := 23) rfl)) rfl rfl rfl (by decide +kernel) (fun _ => ⟨rfl, rfl⟩) ?_
  replace hB := hB.putR (a := (548 + 12 * i + 0)) (j := 2) (b := (548 + 12 * i + 9)) ((st_fo hi (k := 0) (by decide)).trans (if_pos rfl))
  generalize mSetR m (548 + 12 * i + 0) 2 (some (548 + 12 * i + 9)) = m at hB ⊢
  refine r_aload_n (y := m1_init) dX1_init_32 rfl rfl ?_
  refine r_iconst (y := m1_init) (v := 0) dX1_init_33 (by decide) ?_
  refine r_putI (y := m1_init) (ci := 1) (j := 3) (ty := .int) dX1_init_34 (congrArg Prod.fst ((hB.kd (by omega)).trans (show shp (548 + 12 * i + 0) = (1, 0) from sh_fo hi (k := 0) (by decide)))) (by decide) (by decide) (by decide) (r7_law _ (List.mem_of_getElem? (i := 0) rfl)) rfl (by decide +kernel) rfl rfl ?_
  replace hB := hB.putI (a := (548 + 12 * i + 0)) (j := 3) (v := 0) (Or.inr rfl)
  generalize mSetI m (548 + 12 * i + 0) 3 0 = m at hB ⊢
  refine r_aload_n (y := m1_init) dX1_init_37 rfl rfl ?_
  refine r_bipush (y := m1_init) (v := 40) dX1_init_38 (by decide) ?_
  refine r_newIk (y := m1_init) (k := (548 + 12 * i + 10)) (N := 40) hB.1 dX1_init_40 ac_int (by decide) (by decide) (by decide) ?_
  replace hB := hB.arr (kd := 13) (len := 40) (sh_fo hi (k := 10) (by decide)) (fun j => by rw [st_fo hi (k := 10) (by decide), if_neg (by decide), if_neg (by omega)])
  generalize mNew m 13 40 40 = m at hB ⊢
  replace hB := hB.close (k' := (548 + 12 * i + 11)) (by omega) rfl rfl (fun _ _ q => Or.inl q)
  refine r_putRF (y := m1_init) (ci := 1) (j := 4) (ty := (.array .int)) dX1_init_42 (congrArg Prod.fst ((hB.kd (by omega)).trans (show shp (548 + 12 * i + 0) = (1, 0) from sh_fo hi (k := 0) (by decide)))) (by decide) (by decide) (by decide) (r7_law _ (List.mem_of_getElem? (i := 1) rfl)) rfl rfl rfl (by decide +kernel) (fun _ => ⟨rfl, rfl⟩) ?_
  replace hB := hB.putR (a := (548 + 12 * i + 0)) (j := 4) (b := (548 + 12 * i + 10)) ((st_fo hi (k := 0) (by decide)).trans (if_pos rfl))
  generalize mSetR m (548 + 12 * i + 0) 4 (some (548 + 12 * i + 10)) = m at hB ⊢
  refine r_aload_n (y := m1_init) dX1_init_45 rfl rfl ?_
  refine r_bipush (y := m1_init) (v := 42) dX1_init_46 (by decide) ?_
  refine r_newIk (y := m1_init) (k := (548 + 12 * i + 11)) (N := 42) hB.1 dX1_init_48 ac_int (by decide) (by decide) (by decide) ?_
  replace hB := hB.arr (kd := 13) (len := 42) (sh_fo hi (k := 11) (by decide)) (fun j => by rw [st_fo hi (k := 11) (by decide), if_neg (by decide), if_neg (by omega)])
  generalize mNew m 13 42 42 = m at hB ⊢
  replace hB := hB.close (k' := (560 + 12 * i)) (by omega) rfl rfl (fun _ _ q => Or.inl q)
  refine r_putRF (y := m1_init) (ci := 1) (j := 5) (ty := (.array .int)) dX1_init_50 (congrArg Prod.fst ((hB.kd (by omega)).trans (show shp (548 + 12 * i + 0) = (1, 0) from sh_fo hi (k := 0) (by decide)))) (by decide) (by decide) (by decide) (r7_law _ (List.mem_of_getElem? (i := 2) rfl)) rfl rfl rfl (by decide +kernel) (fun _ => ⟨rfl, rfl⟩) ?_
  replace hB := hB.putR (a := (548 + 12 * i + 0)) (j := 5) (b := (548 + 12 * i + 11)) ((st_fo hi (k := 0) (by decide)).trans (if_pos rfl))
  generalize mSetR m (548 + 12 * i + 0) 5 (some (548 + 12 * i + 11)) = m at hB ⊢
  refine r_ret (y := m1_init) dX1_init_53 rfl (hK m (hB.close rfl (by omega) (by omega) (fun a j h => ?_)))
  have h0 : g a j ∨ a = (548 + 12 * i + 0) := h.1.1.1.1.1
  rcases h0 with q | q
  · exact Or.inl q
  · subst q
    refine Or.inr ((st_fo hi (k := 0) (by decide)).trans ((if_pos rfl).trans ?_))
    rcases j with _ | _ | _ | _ | _ | _ | j
    all_goals first | rfl | (exfalso; simp at h)
theorem c_X1 {g : Nat → Nat → Prop} {c z : Nat} {m : Mm} {i : Nat} (hi : i < 10) (hB : Bld (548 + 12 * i + 1) (fun a j => g a j ∨ a = (548 + 12 * i + 0)) c z m) : C m1_init [.ref (548 + 12 * i + 0)] m (fun o m' => o = .inl none ∧ Bld (560 + 12 * i) g (c + 11) (z + 408) m') :=
  C.of (L := [some (.ref (548 + 12 * i + 0))]) (by decide +kernel) (Nat.le_of_ble_eq_true rfl) rfl (i_X1 hi hB (fun _ h => ⟨rfl, h⟩))
set_option maxHeartbeats 4000000 in
set_option maxRecDepth 100000 in
theorem i_X12 {g : Nat → Nat → Prop} {c z : Nat} {m : Mm} {K : Option Value ⊕ String → Mm → Prop} (hB : Bld 669 (fun a j => g a j ∨ a = 668) c z m) (hK : ∀ m', Bld 714 g (c + 45) (z + 383335) m' → K (.inl none) m') : V m12_init 0 [some (.ref 668)] [] m K := by
  refine r_aload_n (y := m12_init) dX12_init_0 rfl rfl ?_
  refine r_objInit (y := m12_init) dX12_init_1 oi_X12 oi_inst oi_code (by decide) (Nat.le_of_ble_eq_true rfl) ?_
  refine r_aload_n (y := m12_init) dX12_init_4 rfl rfl ?_
  refine r_bipush (y := m12_init) (v := 8) dX12_init_5 (by decide) ?_
  refine r_newIk (y := m12_init) (k := 669) (N := 8) hB.1 dX12_init_7 ac_int (by decide) (by decide) (by decide) ?_
  replace hB := hB.arr (kd := 13) (len := 8) rfl (fun _ => rfl)
  generalize mNew m 13 8 8 = m at hB ⊢
  refine r_putRF (y := m12_init) (ci := 12) (j := 1) (ty := (.array .int)) dX12_init_9 (congrArg Prod.fst ((hB.kd (by omega)).trans (show shp 668 = (12, 0) from rfl))) (by decide) (by decide) (by decide) (r7_law _ (List.mem_of_getElem? (i := 7) rfl)) rfl rfl rfl (by decide +kernel) (fun _ => ⟨rfl, rfl⟩) ?_
  replace hB := hB.putR (a := 668) (j := 1) (b := 669) rfl
  generalize mSetR m 668 1 (some 669) = m at hB ⊢
  refine r_aload_n (y := m12_init) dX12_init_12 rfl rfl ?_
  refine r_bipush (y := m12_init) (v := 8) dX12_init_13 (by decide) ?_
  refine r_newZk (y := m12_init) (k := 670) (N := 8) hB.1 dX12_init_15 ac_bool (by decide) (by decide) (by decide) ?_
  replace hB := hB.arr (kd := 14) (len := 8) rfl (fun _ => rfl)
  generalize mNew m 14 8 8 = m at hB ⊢
  refine r_putRF (y := m12_init) (ci := 12) (j := 2) (ty := (.array .boolean)) dX12_init_17 (congrArg Prod.fst ((hB.kd (by omega)).trans (show shp 668 = (12, 0) from rfl))) (by decide) (by decide) (by decide) (r7_law _ (List.mem_of_getElem? (i := 8) rfl)) rfl rfl rfl (by decide +kernel) (fun _ => ⟨rfl, rfl⟩) ?_
  replace hB := hB.putR (a := 668) (j := 2) (b := 670) rfl
  generalize mSetR m 668 2 (some 670) = m at hB ⊢
  refine r_aload_n (y := m12_init) dX12_init_20 rfl rfl ?_
  refine r_bipush (y := m12_init) (v := 80) dX12_init_21 (by decide) ?_
  refine r_newIk (y := m12_init) (k := 671) (N := 80) hB.1 dX12_init_23 ac_int (by decide) (by decide) (by decide) ?_
  replace hB := hB.arr (kd := 13) (len := 80) rfl (fun _ => rfl)
  generalize mNew m 13 80 80 = m at hB ⊢
  refine r_putRF (y := m12_init) (ci := 12) (j := 4) (ty := (.array .int)) dX12_init_25 (congrArg Prod.fst ((hB.kd (by omega)).trans (show shp 668 = (12, 0) from rfl))) (by decide) (by decide) (by decide) (r7_law _ (List.mem_of_getElem? (i := 9) rfl)) rfl rfl rfl (by decide +kernel) (fun _ => ⟨rfl, rfl⟩) ?_
  replace hB := hB.putR (a := 668) (j := 4) (b := 671) rfl
  generalize mSetR m 668 4 (some 671) = m at hB ⊢
  refine r_aload_n (y := m12_init) dX12_init_28 rfl rfl ?_
  refine r_sipush (y := m12_init) (v := 960) dX12_init_29 (by decide) ?_
  refine r_newIk (y := m12_init) (k := 672) (N := 960) hB.1 dX12_init_32 ac_int (by decide) (by decide) (by decide) ?_
  replace hB := hB.arr (kd := 13) (len := 960) rfl (fun _ => rfl)
  generalize mNew m 13 960 960 = m at hB ⊢
  refine r_putRF (y := m12_init) (ci := 12) (j := 5) (ty := (.array .int)) dX12_init_34 (congrArg Prod.fst ((hB.kd (by omega)).trans (show shp 668 = (12, 0) from rfl))) (by decide) (by decide) (by decide) (r7_law _ (List.mem_of_getElem? (i := 10) rfl)) rfl rfl rfl (by decide +kernel) (fun _ => ⟨rfl, rfl⟩) ?_
  replace hB := hB.putR (a := 668) (j := 5) (b := 672) rfl
  generalize mSetR m 668 5 (some 672) = m at hB ⊢
  refine r_aload_n (y := m12_init) dX12_init_37 rfl rfl ?_
  refine r_bipush (y := m12_init) (v := 8) dX12_init_38 (by decide) ?_
  refine r_newIk (y := m12_init) (k := 673) (N := 8) hB.1 dX12_init_40 ac_int (by decide) (by decide) (by decide) ?_
  replace hB := hB.arr (kd := 13) (len := 8) rfl (fun _ => rfl)
  generalize mNew m 13 8 8 = m at hB ⊢
  refine r_putRF (y := m12_init) (ci := 12) (j := 6) (ty := (.array .int)) dX12_init_42 (congrArg Prod.fst ((hB.kd (by omega)).trans (show shp 668 = (12, 0) from rfl))) (by decide) (by decide) (by decide) (r7_law _ (List.mem_of_getElem? (i := 11) rfl)) rfl rfl rfl (by decide +kernel) (fun _ => ⟨rfl, rfl⟩) ?_
  replace hB := hB.putR (a := 668) (j := 6) (b := 673) rfl
  generalize mSetR m 668 6 (some 673) = m at hB ⊢
  refine r_aload_n (y := m12_init) dX12_init_45 rfl rfl ?_
  refine r_sipush (y := m12_init) (v := 192) dX12_init_46 (by decide) ?_
  refine r_newIk (y := m12_init) (k := 674) (N := 192) hB.1 dX12_init_49 ac_int (by decide) (by decide) (by decide) ?_
  replace hB := hB.arr (kd := 13) (len := 192) rfl (fun _ => rfl)
  generalize mNew m 13 192 192 = m at hB ⊢
  refine r_putRF (y := m12_init) (ci := 12) (j := 7) (ty := (.array .int)) dX12_init_51 (congrArg Prod.fst ((hB.kd (by omega)).trans (show shp 668 = (12, 0) from rfl))) (by decide) (by decide) (by decide) (r7_law _ (List.mem_of_getElem? (i := 12) rfl)) rfl rfl rfl (by decide +kernel) (fun _ => ⟨rfl, rfl⟩) ?_
  replace hB := hB.putR (a := 668) (j := 7) (b := 674) rfl
  generalize mSetR m 668 7 (some 674) = m at hB ⊢
  refine r_aload_n (y := m12_init) dX12_init_54 rfl rfl ?_
  refine r_bipush (y := m12_init) (v := 24) dX12_init_55 (by decide) ?_
  refine r_newZk (y := m12_init) (k := 675) (N := 24) hB.1 dX12_init_57 ac_bool (by decide) (by decide) (by decide) ?_
  replace hB := hB.arr (kd := 14) (len := 24) rfl (fun _ => rfl)
  generalize mNew m 14 24 24 = m at hB ⊢
  refine r_putRF (y := m12_init) (ci := 12) (j := 8) (ty := (.array .boolean)) dX12_init_59 (congrArg Prod.fst ((hB.kd (by omega)).trans (show shp 668 = (12, 0) from rfl))) (by decide) (by decide) (by decide) (r7_law _ (List.mem_of_getElem? (i := 13) rfl)) rfl rfl rfl (by decide +kernel) (fun _ => ⟨rfl, rfl⟩) ?_
  replace hB := hB.putR (a := 668) (j := 8) (b := 675) rfl
  generalize mSetR m 668 8 (some 675) = m at hB ⊢
  refine r_aload_n (y := m12_init) dX12_init_62 rfl rfl ?_
  refine r_sipush (y := m12_init) (v := 876) dX12_init_63 (by decide) ?_
  refine r_newIk (y := m12_init) (k := 676) (N := 876) hB.1 dX12_init_66 ac_int (by decide) (by decide) (by decide) ?_
  replace hB := hB.arr (kd := 13) (len := 876) rfl (fun _ => rfl)
  generalize mNew m 13 876 876 = m at hB ⊢
  refine r_putRF (y := m12_init) (ci := 12) (j := 10) (ty := (.array .int)) dX12_init_68 (congrArg Prod.fst ((hB.kd (by omega)).trans (show shp 668 = (12, 0) from rfl))) (by decide) (by decide) (by decide) (r7_law _ (List.mem_of_getElem? (i := 14) rfl)) rfl rfl rfl (by decide +kernel) (fun _ => ⟨rfl, rfl⟩) ?_
  replace hB := hB.putR (a := 668) (j := 10) (b := 676) rfl
  generalize mSetR m 668 10 (some 676) = m at hB ⊢
  refine r_aload_n (y := m12_init) dX12_init_71 rfl rfl ?_
  refine r_sipush (y := m12_init) (v := 6000) dX12_init_72 (by decide) ?_
  refine r_newIk (y := m12_init) (k := 677) (N := 6000) hB.1 dX12_init_75 ac_int (by decide) (by decide) (by decide) ?_
  replace hB := hB.arr (kd := 13) (len := 6000) rfl (fun _ => rfl)
  generalize mNew m 13 6000 6000 = m at hB ⊢
  refine r_putRF (y := m12_init) (ci := 12) (j := 14) (ty := (.array .int)) dX12_init_77 (congrArg Prod.fst ((hB.kd (by omega)).trans (show shp 668 = (12, 0) from rfl))) (by decide) (by decide) (by decide) (r7_law _ (List.mem_of_getElem? (i := 15) rfl)) rfl rfl rfl (by decide +kernel) (fun _ => ⟨rfl, rfl⟩) ?_
  replace hB := hB.putR (a := 668) (j := 14) (b := 677) rfl
  generalize mSetR m 668 14 (some 677) = m at hB ⊢
  refine r_aload_n (y := m12_init) dX12_init_80 rfl rfl ?_
  refine r_sipush (y := m12_init) (v := 6000) dX12_init_81 (by decide) ?_
  refine r_newIk (y := m12_init) (k := 678) (N := 6000) hB.1 dX12_init_84 ac_int (by decide) (by decide) (by decide) ?_
  replace hB := hB.arr (kd := 13) (len := 6000) rfl (fun _ => rfl)
  generalize mNew m 13 6000 6000 = m at hB ⊢
  refine r_putRF (y := m12_init) (ci := 12) (j := 15) (ty := (.array .int)) dX12_init_86 (congrArg Prod.fst ((hB.kd (by omega)).trans (show shp 668 = (12, 0) from rfl))) (by decide) (by decide) (by decide) (r7_law _ (List.mem_of_getElem? (i := 16) rfl)) rfl rfl rfl (by decide +kernel) (fun _ => ⟨rfl, rfl⟩) ?_
  replace hB := hB.putR (a := 668) (j := 15) (b := 678) rfl
  generalize mSetR m 668 15 (some 678) = m at hB ⊢
  refine r_aload_n (y := m12_init) dX12_init_89 rfl rfl ?_
  refine r_sipush (y := m12_init) (v := 6000) dX12_init_90 (by decide) ?_
  refine r_newIk (y := m12_init) (k := 679) (N := 6000) hB.1 dX12_init_93 ac_int (by decide) (by decide) (by decide) ?_
  replace hB := hB.arr (kd := 13) (len := 6000) rfl (fun _ => rfl)
  generalize mNew m 13 6000 6000 = m at hB ⊢
  refine r_putRF (y := m12_init) (ci := 12) (j := 16) (ty := (.array .int)) dX12_init_95 (congrArg Prod.fst ((hB.kd (by omega)).trans (show shp 668 = (12, 0) from rfl))) (by decide) (by decide) (by decide) (r7_law _ (List.mem_of_getElem? (i := 17) rfl)) rfl rfl rfl (by decide +kernel) (fun _ => ⟨rfl, rfl⟩) ?_
  replace hB := hB.putR (a := 668) (j := 16) (b := 679) rfl
  generalize mSetR m 668 16 (some 679) = m at hB ⊢
  refine r_aload_n (y := m12_init) dX12_init_98 rfl rfl ?_
  refine r_sipush (y := m12_init) (v := 6000) dX12_init_99 (by decide) ?_
  refine r_newIk (y := m12_init) (k := 680) (N := 6000) hB.1 dX12_init_102 ac_int (by decide) (by decide) (by decide) ?_
  replace hB := hB.arr (kd := 13) (len := 6000) rfl (fun _ => rfl)
  generalize mNew m 13 6000 6000 = m at hB ⊢
  refine r_putRF (y := m12_init) (ci := 12) (j := 17) (ty := (.array .int)) dX12_init_104 (congrArg Prod.fst ((hB.kd (by omega)).trans (show shp 668 = (12, 0) from rfl))) (by decide) (by decide) (by decide) (r7_law _ (List.mem_of_getElem? (i := 18) rfl)) rfl rfl rfl (by decide +kernel) (fun _ => ⟨rfl, rfl⟩) ?_
  replace hB := hB.putR (a := 668) (j := 17) (b := 680) rfl
  generalize mSetR m 668 17 (some 680) = m at hB ⊢
  refine r_aload_n (y := m12_init) dX12_init_107 rfl rfl ?_
  refine r_sipush (y := m12_init) (v := 6000) dX12_init_108 (by decide) ?_
  refine r_newIk (y := m12_init) (k := 681) (N := 6000) hB.1 dX12_init_111 ac_int (by decide) (by decide) (by decide) ?_
  replace hB := hB.arr (kd := 13) (len := 6000) rfl (fun _ => rfl)
  generalize mNew m 13 6000 6000 = m at hB ⊢
  refine r_putRF (y := m12_init) (ci := 12) (j := 18) (ty := (.array .int)) dX12_init_113 (congrArg Prod.fst ((hB.kd (by omega)).trans (show shp 668 = (12, 0) from rfl))) (by decide) (by decide) (by decide) (r7_law _ (List.mem_of_getElem? (i := 19) rfl)) rfl rfl rfl (by decide +kernel) (fun _ => ⟨rfl, rfl⟩) ?_
  replace hB := hB.putR (a := 668) (j := 18) (b := 681) rfl
  generalize mSetR m 668 18 (some 681) = m at hB ⊢
  refine r_aload_n (y := m12_init) dX12_init_116 rfl rfl ?_
  refine r_sipush (y := m12_init) (v := 6000) dX12_init_117 (by decide) ?_
  refine r_newIk (y := m12_init) (k := 682) (N := 6000) hB.1 dX12_init_120 ac_int (by decide) (by decide) (by decide) ?_
  replace hB := hB.arr (kd := 13) (len := 6000) rfl (fun _ => rfl)
  generalize mNew m 13 6000 6000 = m at hB ⊢
  refine r_putRF (y := m12_init) (ci := 12) (j := 19) (ty := (.array .int)) dX12_init_122 (congrArg Prod.fst ((hB.kd (by omega)).trans (show shp 668 = (12, 0) from rfl))) (by decide) (by decide) (by decide) (r7_law _ (List.mem_of_getElem? (i := 20) rfl)) rfl rfl rfl (by decide +kernel) (fun _ => ⟨rfl, rfl⟩) ?_
  replace hB := hB.putR (a := 668) (j := 19) (b := 682) rfl
  generalize mSetR m 668 19 (some 682) = m at hB ⊢
  refine r_aload_n (y := m12_init) dX12_init_125 rfl rfl ?_
  refine r_sipush (y := m12_init) (v := 6000) dX12_init_126 (by decide) ?_
  refine r_newIk (y := m12_init) (k := 683) (N := 6000) hB.1 dX12_init_129 ac_int (by decide) (by decide) (by decide) ?_
  replace hB := hB.arr (kd := 13) (len := 6000) rfl (fun _ => rfl)
  generalize mNew m 13 6000 6000 = m at hB ⊢
  refine r_putRF (y := m12_init) (ci := 12) (j := 20) (ty := (.array .int)) dX12_init_131 (congrArg Prod.fst ((hB.kd (by omega)).trans (show shp 668 = (12, 0) from rfl))) (by decide) (by decide) (by decide) (r7_law _ (List.mem_of_getElem? (i := 21) rfl)) rfl rfl rfl (by decide +kernel) (fun _ => ⟨rfl, rfl⟩) ?_
  replace hB := hB.putR (a := 668) (j := 20) (b := 683) rfl
  generalize mSetR m 668 20 (some 683) = m at hB ⊢
  refine r_aload_n (y := m12_init) dX12_init_134 rfl rfl ?_
  refine r_sipush (y := m12_init) (v := 6000) dX12_init_135 (by decide) ?_
  refine r_newZk (y := m12_init) (k := 684) (N := 6000) hB.1 dX12_init_138 ac_bool (by decide) (by decide) (by decide) ?_
  replace hB := hB.arr (kd := 14) (len := 6000) rfl (fun _ => rfl)
  generalize mNew m 14 6000 6000 = m at hB ⊢
  refine r_putRF (y := m12_init) (ci := 12) (j := 21) (ty := (.array .boolean)) dX12_init_140 (congrArg Prod.fst ((hB.kd (by omega)).trans (show shp 668 = (12, 0) from rfl))) (by decide) (by decide) (by decide) (r7_law _ (List.mem_of_getElem? (i := 22) rfl)) rfl rfl rfl (by decide +kernel) (fun _ => ⟨rfl, rfl⟩) ?_
  replace hB := hB.putR (a := 668) (j := 21) (b := 684) rfl
  generalize mSetR m 668 21 (some 684) = m at hB ⊢
  refine r_aload_n (y := m12_init) dX12_init_143 rfl rfl ?_
  refine r_sipush (y := m12_init) (v := 1200) dX12_init_144 (by decide) ?_
  refine r_newIk (y := m12_init) (k := 685) (N := 1200) hB.1 dX12_init_147 ac_int (by decide) (by decide) (by decide) ?_
  replace hB := hB.arr (kd := 13) (len := 1200) rfl (fun _ => rfl)
  generalize mNew m 13 1200 1200 = m at hB ⊢
  refine r_putRF (y := m12_init) (ci := 12) (j := 23) (ty := (.array .int)) dX12_init_149 (congrArg Prod.fst ((hB.kd (by omega)).trans (show shp 668 = (12, 0) from rfl))) (by decide) (by decide) (by decide) (r7_law _ (List.mem_of_getElem? (i := 23) rfl)) rfl rfl rfl (by decide +kernel) (fun _ => ⟨rfl, rfl⟩) ?_
  replace hB := hB.putR (a := 668) (j := 23) (b := 685) rfl
  generalize mSetR m 668 23 (some 685) = m at hB ⊢
  refine r_aload_n (y := m12_init) dX12_init_152 rfl rfl ?_
  refine r_sipush (y := m12_init) (v := 20000) dX12_init_153 (by decide) ?_
  refine r_newIk (y := m12_init) (k := 686) (N := 20000) hB.1 dX12_init_156 ac_int (by decide) (by decide) (by decide) ?_
  replace hB := hB.arr (kd := 13) (len := 20000) rfl (fun _ => rfl)
  generalize mNew m 13 20000 20000 = m at hB ⊢
  refine r_putRF (y := m12_init) (ci := 12) (j := 25) (ty := (.array .int)) dX12_init_158 (congrArg Prod.fst ((hB.kd (by omega)).trans (show shp 668 = (12, 0) from rfl))) (by decide) (by decide) (by decide) (r8_law _ (List.mem_of_getElem? (i := 0) rfl)) rfl rfl rfl (by decide +kernel) (fun _ => ⟨rfl, rfl⟩) ?_
  replace hB := hB.putR (a := 668) (j := 25) (b := 686) rfl
  generalize mSetR m 668 25 (some 686) = m at hB ⊢
  refine r_aload_n (y := m12_init) dX12_init_161 rfl rfl ?_
  refine r_sipush (y := m12_init) (v := 20000) dX12_init_162 (by decide) ?_
  refine r_newIk (y := m12_init) (k := 687) (N := 20000) hB.1 dX12_init_165 ac_int (by decide) (by decide) (by decide) ?_
  replace hB := hB.arr (kd := 13) (len := 20000) rfl (fun _ => rfl)
  generalize mNew m 13 20000 20000 = m at hB ⊢
  refine r_putRF (y := m12_init) (ci := 12) (j := 26) (ty := (.array .int)) dX12_init_167 (congrArg Prod.fst ((hB.kd (by omega)).trans (show shp 668 = (12, 0) from rfl))) (by decide) (by decide) (by decide) (r8_law _ (List.mem_of_getElem? (i := 1) rfl)) rfl rfl rfl (by decide +kernel) (fun _ => ⟨rfl, rfl⟩) ?_
  replace hB := hB.putR (a := 668) (j := 26) (b := 687) rfl
  generalize mSetR m 668 26 (some 687) = m at hB ⊢
  refine r_aload_n (y := m12_init) dX12_init_170 rfl rfl ?_
  refine r_sipush (y := m12_init) (v := 20000) dX12_init_171 (by decide) ?_
  refine r_newIk (y := m12_init) (k := 688) (N := 20000) hB.1 dX12_init_174 ac_int (by decide) (by decide) (by decide) ?_
  replace hB := hB.arr (kd := 13) (len := 20000) rfl (fun _ => rfl)
  generalize mNew m 13 20000 20000 = m at hB ⊢
  refine r_putRF (y := m12_init) (ci := 12) (j := 27) (ty := (.array .int)) dX12_init_176 (congrArg Prod.fst ((hB.kd (by omega)).trans (show shp 668 = (12, 0) from rfl))) (by decide) (by decide) (by decide) (r8_law _ (List.mem_of_getElem? (i := 2) rfl)) rfl rfl rfl (by decide +kernel) (fun _ => ⟨rfl, rfl⟩) ?_
  replace hB := hB.putR (a := 668) (j := 27) (b := 688) rfl
  generalize mSetR m 668 27 (some 688) = m at hB ⊢
  refine r_aload_n (y := m12_init) dX12_init_179 rfl rfl ?_
  refine r_sipush (y := m12_init) (v := 20000) dX12_init_180 (by decide) ?_
  refine r_newIk (y := m12_init) (k := 689) (N := 20000) hB.1 dX12_init_183 ac_int (by decide) (by decide) (by decide) ?_
  replace hB := hB.arr (kd := 13) (len := 20000) rfl (fun _ => rfl)
  generalize mNew m 13 20000 20000 = m at hB ⊢
  refine r_putRF (y := m12_init) (ci := 12) (j := 28) (ty := (.array .int)) dX12_init_185 (congrArg Prod.fst ((hB.kd (by omega)).trans (show shp 668 = (12, 0) from rfl))) (by decide) (by decide) (by decide) (r8_law _ (List.mem_of_getElem? (i := 3) rfl)) rfl rfl rfl (by decide +kernel) (fun _ => ⟨rfl, rfl⟩) ?_
  replace hB := hB.putR (a := 668) (j := 28) (b := 689) rfl
  generalize mSetR m 668 28 (some 689) = m at hB ⊢
  refine r_aload_n (y := m12_init) dX12_init_188 rfl rfl ?_
  refine r_bipush (y := m12_init) (v := 110) dX12_init_189 (by decide) ?_
  refine r_newIk (y := m12_init) (k := 690) (N := 110) hB.1 dX12_init_191 ac_int (by decide) (by decide) (by decide) ?_
  replace hB := hB.arr (kd := 13) (len := 110) rfl (fun _ => rfl)
  generalize mNew m 13 110 110 = m at hB ⊢
  refine r_putRF (y := m12_init) (ci := 12) (j := 32) (ty := (.array .int)) dX12_init_193 (congrArg Prod.fst ((hB.kd (by omega)).trans (show shp 668 = (12, 0) from rfl))) (by decide) (by decide) (by decide) (r8_law _ (List.mem_of_getElem? (i := 4) rfl)) rfl rfl rfl (by decide +kernel) (fun _ => ⟨rfl, rfl⟩) ?_
  replace hB := hB.putR (a := 668) (j := 32) (b := 690) rfl
  generalize mSetR m 668 32 (some 690) = m at hB ⊢
  refine r_aload_n (y := m12_init) dX12_init_196 rfl rfl ?_
  refine r_bipush (y := m12_init) (v := 110) dX12_init_197 (by decide) ?_
  refine r_newIk (y := m12_init) (k := 691) (N := 110) hB.1 dX12_init_199 ac_int (by decide) (by decide) (by decide) ?_
  replace hB := hB.arr (kd := 13) (len := 110) rfl (fun _ => rfl)
  generalize mNew m 13 110 110 = m at hB ⊢
  refine r_putRF (y := m12_init) (ci := 12) (j := 33) (ty := (.array .int)) dX12_init_201 (congrArg Prod.fst ((hB.kd (by omega)).trans (show shp 668 = (12, 0) from rfl))) (by decide) (by decide) (by decide) (r8_law _ (List.mem_of_getElem? (i := 5) rfl)) rfl rfl rfl (by decide +kernel) (fun _ => ⟨rfl, rfl⟩) ?_
  replace hB := hB.putR (a := 668) (j := 33) (b := 691) rfl
  generalize mSetR m 668 33 (some 691) = m at hB ⊢
  refine r_aload_n (y := m12_init) dX12_init_204 rfl rfl ?_
  refine r_bipush (y := m12_init) (v := 110) dX12_init_205 (by decide) ?_
  refine r_newIk (y := m12_init) (k := 692) (N := 110) hB.1 dX12_init_207 ac_int (by decide) (by decide) (by decide) ?_
  replace hB := hB.arr (kd := 13) (len := 110) rfl (fun _ => rfl)
  generalize mNew m 13 110 110 = m at hB ⊢
  refine r_putRF (y := m12_init) (ci := 12) (j := 34) (ty := (.array .int)) dX12_init_209 (congrArg Prod.fst ((hB.kd (by omega)).trans (show shp 668 = (12, 0) from rfl))) (by decide) (by decide) (by decide) (r8_law _ (List.mem_of_getElem? (i := 6) rfl)) rfl rfl rfl (by decide +kernel) (fun _ => ⟨rfl, rfl⟩) ?_
  replace hB := hB.putR (a := 668) (j := 34) (b := 692) rfl
  generalize mSetR m 668 34 (some 692) = m at hB ⊢
  refine r_aload_n (y := m12_init) dX12_init_212 rfl rfl ?_
  refine r_bipush (y := m12_init) (v := 110) dX12_init_213 (by decide) ?_
  refine r_newIk (y := m12_init) (k := 693) (N := 110) hB.1 dX12_init_215 ac_int (by decide) (by decide) (by decide) ?_
  replace hB := hB.arr (kd := 13) (len := 110) rfl (fun _ => rfl)
  generalize mNew m 13 110 110 = m at hB ⊢
  refine r_putRF (y := m12_init) (ci := 12) (j := 35) (ty := (.array .int)) dX12_init_217 (congrArg Prod.fst ((hB.kd (by omega)).trans (show shp 668 = (12, 0) from rfl))) (by decide) (by decide) (by decide) (r8_law _ (List.mem_of_getElem? (i := 7) rfl)) rfl rfl rfl (by decide +kernel) (fun _ => ⟨rfl, rfl⟩) ?_
  replace hB := hB.putR (a := 668) (j := 35) (b := 693) rfl
  generalize mSetR m 668 35 (some 693) = m at hB ⊢
  refine r_aload_n (y := m12_init) dX12_init_220 rfl rfl ?_
  refine r_bipush (y := m12_init) (v := 110) dX12_init_221 (by decide) ?_
  refine r_newIk (y := m12_init) (k := 694) (N := 110) hB.1 dX12_init_223 ac_int (by decide) (by decide) (by decide) ?_
  replace hB := hB.arr (kd := 13) (len := 110) rfl (fun _ => rfl)
  generalize mNew m 13 110 110 = m at hB ⊢
  refine r_putRF (y := m12_init) (ci := 12) (j := 36) (ty := (.array .int)) dX12_init_225 (congrArg Prod.fst ((hB.kd (by omega)).trans (show shp 668 = (12, 0) from rfl))) (by decide) (by decide) (by decide) (r8_law _ (List.mem_of_getElem? (i := 8) rfl)) rfl rfl rfl (by decide +kernel) (fun _ => ⟨rfl, rfl⟩) ?_
  replace hB := hB.putR (a := 668) (j := 36) (b := 694) rfl
  generalize mSetR m 668 36 (some 694) = m at hB ⊢
  refine r_aload_n (y := m12_init) dX12_init_228 rfl rfl ?_
  refine r_sipush (y := m12_init) (v := 4510) dX12_init_229 (by decide) ?_
  refine r_newIk (y := m12_init) (k := 695) (N := 4510) hB.1 dX12_init_232 ac_int (by decide) (by decide) (by decide) ?_
  replace hB := hB.arr (kd := 13) (len := 4510) rfl (fun _ => rfl)
  generalize mNew m 13 4510 4510 = m at hB ⊢
  refine r_putRF (y := m12_init) (ci := 12) (j := 37) (ty := (.array .int)) dX12_init_234 (congrArg Prod.fst ((hB.kd (by omega)).trans (show shp 668 = (12, 0) from rfl))) (by decide) (by decide) (by decide) (r8_law _ (List.mem_of_getElem? (i := 9) rfl)) rfl rfl rfl (by decide +kernel) (fun _ => ⟨rfl, rfl⟩) ?_
  replace hB := hB.putR (a := 668) (j := 37) (b := 695) rfl
  generalize mSetR m 668 37 (some 695) = m at hB ⊢
  refine r_aload_n (y := m12_init) dX12_init_237 rfl rfl ?_
  refine r_sipush (y := m12_init) (v := 4510) dX12_init_238 (by decide) ?_
  refine r_newIk (y := m12_init) (k := 696) (N := 4510) hB.1 dX12_init_241 ac_int (by decide) (by decide) (by decide) ?_
  replace hB := hB.arr (kd := 13) (len := 4510) rfl (fun _ => rfl)
  generalize mNew m 13 4510 4510 = m at hB ⊢
  refine r_putRF (y := m12_init) (ci := 12) (j := 38) (ty := (.array .int)) dX12_init_243 (congrArg Prod.fst ((hB.kd (by omega)).trans (show shp 668 = (12, 0) from rfl))) (by decide) (by decide) (by decide) (r8_law _ (List.mem_of_getElem? (i := 10) rfl)) rfl rfl rfl (by decide +kernel) (fun _ => ⟨rfl, rfl⟩) ?_
  replace hB := hB.putR (a := 668) (j := 38) (b := 696) rfl
  generalize mSetR m 668 38 (some 696) = m at hB ⊢
  refine r_aload_n (y := m12_init) dX12_init_246 rfl rfl ?_
  refine r_bipush (y := m12_init) (v := 16) dX12_init_247 (by decide) ?_
  refine r_newIk (y := m12_init) (k := 697) (N := 16) hB.1 dX12_init_249 ac_int (by decide) (by decide) (by decide) ?_
  replace hB := hB.arr (kd := 13) (len := 16) rfl (fun _ => rfl)
  generalize mNew m 13 16 16 = m at hB ⊢
  refine r_putRF (y := m12_init) (ci := 12) (j := 40) (ty := (.array .int)) dX12_init_251 (congrArg Prod.fst ((hB.kd (by omega)).trans (show shp 668 = (12, 0) from rfl))) (by decide) (by decide) (by decide) (r8_law _ (List.mem_of_getElem? (i := 11) rfl)) rfl rfl rfl (by decide +kernel) (fun _ => ⟨rfl, rfl⟩) ?_
  replace hB := hB.putR (a := 668) (j := 40) (b := 697) rfl
  generalize mSetR m 668 40 (some 697) = m at hB ⊢
  refine r_aload_n (y := m12_init) dX12_init_254 rfl rfl ?_
  refine r_bipush (y := m12_init) (v := 16) dX12_init_255 (by decide) ?_
  refine r_newIk (y := m12_init) (k := 698) (N := 16) hB.1 dX12_init_257 ac_int (by decide) (by decide) (by decide) ?_
  replace hB := hB.arr (kd := 13) (len := 16) rfl (fun _ => rfl)
  generalize mNew m 13 16 16 = m at hB ⊢
  refine r_putRF (y := m12_init) (ci := 12) (j := 41) (ty := (.array .int)) dX12_init_259 (congrArg Prod.fst ((hB.kd (by omega)).trans (show shp 668 = (12, 0) from rfl))) (by decide) (by decide) (by decide) (r8_law _ (List.mem_of_getElem? (i := 12) rfl)) rfl rfl rfl (by decide +kernel) (fun _ => ⟨rfl, rfl⟩) ?_
  replace hB := hB.putR (a := 668) (j := 41) (b := 698) rfl
  generalize mSetR m 668 41 (some 698) = m at hB ⊢
  refine r_aload_n (y := m12_init) dX12_init_262 rfl rfl ?_
  refine r_sipush (y := m12_init) (v := 6000) dX12_init_263 (by decide) ?_
  refine r_newIk (y := m12_init) (k := 699) (N := 6000) hB.1 dX12_init_266 ac_int (by decide) (by decide) (by decide) ?_
  replace hB := hB.arr (kd := 13) (len := 6000) rfl (fun _ => rfl)
  generalize mNew m 13 6000 6000 = m at hB ⊢
  refine r_putRF (y := m12_init) (ci := 12) (j := 43) (ty := (.array .int)) dX12_init_268 (congrArg Prod.fst ((hB.kd (by omega)).trans (show shp 668 = (12, 0) from rfl))) (by decide) (by decide) (by decide) (r8_law _ (List.mem_of_getElem? (i := 13) rfl)) rfl rfl rfl (by decide +kernel) (fun _ => ⟨rfl, rfl⟩) ?_
  replace hB := hB.putR (a := 668) (j := 43) (b := 699) rfl
  generalize mSetR m 668 43 (some 699) = m at hB ⊢
  refine r_aload_n (y := m12_init) dX12_init_271 rfl rfl ?_
  refine r_sipush (y := m12_init) (v := 6000) dX12_init_272 (by decide) ?_
  refine r_newIk (y := m12_init) (k := 700) (N := 6000) hB.1 dX12_init_275 ac_int (by decide) (by decide) (by decide) ?_
  replace hB := hB.arr (kd := 13) (len := 6000) rfl (fun _ => rfl)
  generalize mNew m 13 6000 6000 = m at hB ⊢
  refine r_putRF (y := m12_init) (ci := 12) (j := 44) (ty := (.array .int)) dX12_init_277 (congrArg Prod.fst ((hB.kd (by omega)).trans (show shp 668 = (12, 0) from rfl))) (by decide) (by decide) (by decide) (r8_law _ (List.mem_of_getElem? (i := 14) rfl)) rfl rfl rfl (by decide +kernel) (fun _ => ⟨rfl, rfl⟩) ?_
  replace hB := hB.putR (a := 668) (j := 44) (b := 700) rfl
  generalize mSetR m 668 44 (some 700) = m at hB ⊢
  refine r_aload_n (y := m12_init) dX12_init_280 rfl rfl ?_
  refine r_sipush (y := m12_init) (v := 6000) dX12_init_281 (by decide) ?_
  refine r_newIk (y := m12_init) (k := 701) (N := 6000) hB.1 dX12_init_284 ac_int (by decide) (by decide) (by decide) ?_
  replace hB := hB.arr (kd := 13) (len := 6000) rfl (fun _ => rfl)
  generalize mNew m 13 6000 6000 = m at hB ⊢
  refine r_putRF (y := m12_init) (ci := 12) (j := 45) (ty := (.array .int)) dX12_init_286 (congrArg Prod.fst ((hB.kd (by omega)).trans (show shp 668 = (12, 0) from rfl))) (by decide) (by decide) (by decide) (r8_law _ (List.mem_of_getElem? (i := 15) rfl)) rfl rfl rfl (by decide +kernel) (fun _ => ⟨rfl, rfl⟩) ?_
  replace hB := hB.putR (a := 668) (j := 45) (b := 701) rfl
  generalize mSetR m 668 45 (some 701) = m at hB ⊢
  refine r_aload_n (y := m12_init) dX12_init_289 rfl rfl ?_
  refine r_sipush (y := m12_init) (v := 6000) dX12_init_290 (by decide) ?_
  refine r_newIk (y := m12_init) (k := 702) (N := 6000) hB.1 dX12_init_293 ac_int (by decide) (by decide) (by decide) ?_
  replace hB := hB.arr (kd := 13) (len := 6000) rfl (fun _ => rfl)
  generalize mNew m 13 6000 6000 = m at hB ⊢
  refine r_putRF (y := m12_init) (ci := 12) (j := 47) (ty := (.array .int)) dX12_init_295 (congrArg Prod.fst ((hB.kd (by omega)).trans (show shp 668 = (12, 0) from rfl))) (by decide) (by decide) (by decide) (r8_law _ (List.mem_of_getElem? (i := 16) rfl)) rfl rfl rfl (by decide +kernel) (fun _ => ⟨rfl, rfl⟩) ?_
  replace hB := hB.putR (a := 668) (j := 47) (b := 702) rfl
  generalize mSetR m 668 47 (some 702) = m at hB ⊢
  refine r_aload_n (y := m12_init) dX12_init_298 rfl rfl ?_
  refine r_bipush (y := m12_init) (v := 70) dX12_init_299 (by decide) ?_
  refine r_newIk (y := m12_init) (k := 703) (N := 70) hB.1 dX12_init_301 ac_int (by decide) (by decide) (by decide) ?_
  replace hB := hB.arr (kd := 13) (len := 70) rfl (fun _ => rfl)
  generalize mNew m 13 70 70 = m at hB ⊢
  refine r_putRF (y := m12_init) (ci := 12) (j := 51) (ty := (.array .int)) dX12_init_303 (congrArg Prod.fst ((hB.kd (by omega)).trans (show shp 668 = (12, 0) from rfl))) (by decide) (by decide) (by decide) (r8_law _ (List.mem_of_getElem? (i := 17) rfl)) rfl rfl rfl (by decide +kernel) (fun _ => ⟨rfl, rfl⟩) ?_
  replace hB := hB.putR (a := 668) (j := 51) (b := 703) rfl
  generalize mSetR m 668 51 (some 703) = m at hB ⊢
  refine r_aload_n (y := m12_init) dX12_init_306 rfl rfl ?_
  refine r_sipush (y := m12_init) (v := 2800) dX12_init_307 (by decide) ?_
  refine r_newIk (y := m12_init) (k := 704) (N := 2800) hB.1 dX12_init_310 ac_int (by decide) (by decide) (by decide) ?_
  replace hB := hB.arr (kd := 13) (len := 2800) rfl (fun _ => rfl)
  generalize mNew m 13 2800 2800 = m at hB ⊢
  refine r_putRF (y := m12_init) (ci := 12) (j := 52) (ty := (.array .int)) dX12_init_312 (congrArg Prod.fst ((hB.kd (by omega)).trans (show shp 668 = (12, 0) from rfl))) (by decide) (by decide) (by decide) (r8_law _ (List.mem_of_getElem? (i := 18) rfl)) rfl rfl rfl (by decide +kernel) (fun _ => ⟨rfl, rfl⟩) ?_
  replace hB := hB.putR (a := 668) (j := 52) (b := 704) rfl
  generalize mSetR m 668 52 (some 704) = m at hB ⊢
  refine r_aload_n (y := m12_init) dX12_init_315 rfl rfl ?_
  refine r_bipush (y := m12_init) (v := 10) dX12_init_316 (by decide) ?_
  refine r_newIk (y := m12_init) (k := 705) (N := 10) hB.1 dX12_init_318 ac_int (by decide) (by decide) (by decide) ?_
  replace hB := hB.arr (kd := 13) (len := 10) rfl (fun _ => rfl)
  generalize mNew m 13 10 10 = m at hB ⊢
  refine r_putRF (y := m12_init) (ci := 12) (j := 53) (ty := (.array .int)) dX12_init_320 (congrArg Prod.fst ((hB.kd (by omega)).trans (show shp 668 = (12, 0) from rfl))) (by decide) (by decide) (by decide) (r8_law _ (List.mem_of_getElem? (i := 19) rfl)) rfl rfl rfl (by decide +kernel) (fun _ => ⟨rfl, rfl⟩) ?_
  replace hB := hB.putR (a := 668) (j := 53) (b := 705) rfl
  generalize mSetR m 668 53 (some 705) = m at hB ⊢
  refine r_aload_n (y := m12_init) dX12_init_323 rfl rfl ?_
  refine r_bipush (y := m12_init) (v := 10) dX12_init_324 (by decide) ?_
  refine r_newIk (y := m12_init) (k := 706) (N := 10) hB.1 dX12_init_326 ac_int (by decide) (by decide) (by decide) ?_
  replace hB := hB.arr (kd := 13) (len := 10) rfl (fun _ => rfl)
  generalize mNew m 13 10 10 = m at hB ⊢
  refine r_putRF (y := m12_init) (ci := 12) (j := 54) (ty := (.array .int)) dX12_init_328 (congrArg Prod.fst ((hB.kd (by omega)).trans (show shp 668 = (12, 0) from rfl))) (by decide) (by decide) (by decide) (r8_law _ (List.mem_of_getElem? (i := 20) rfl)) rfl rfl rfl (by decide +kernel) (fun _ => ⟨rfl, rfl⟩) ?_
  replace hB := hB.putR (a := 668) (j := 54) (b := 706) rfl
  generalize mSetR m 668 54 (some 706) = m at hB ⊢
  refine r_aload_n (y := m12_init) dX12_init_331 rfl rfl ?_
  refine r_sipush (y := m12_init) (v := 400) dX12_init_332 (by decide) ?_
  refine r_newIk (y := m12_init) (k := 707) (N := 400) hB.1 dX12_init_335 ac_int (by decide) (by decide) (by decide) ?_
  replace hB := hB.arr (kd := 13) (len := 400) rfl (fun _ => rfl)
  generalize mNew m 13 400 400 = m at hB ⊢
  refine r_putRF (y := m12_init) (ci := 12) (j := 55) (ty := (.array .int)) dX12_init_337 (congrArg Prod.fst ((hB.kd (by omega)).trans (show shp 668 = (12, 0) from rfl))) (by decide) (by decide) (by decide) (r8_law _ (List.mem_of_getElem? (i := 21) rfl)) rfl rfl rfl (by decide +kernel) (fun _ => ⟨rfl, rfl⟩) ?_
  replace hB := hB.putR (a := 668) (j := 55) (b := 707) rfl
  generalize mSetR m 668 55 (some 707) = m at hB ⊢
  refine r_aload_n (y := m12_init) dX12_init_340 rfl rfl ?_
  refine r_bipush (y := m12_init) (v := 6) dX12_init_341 (by decide) ?_
  refine r_newIk (y := m12_init) (k := 708) (N := 6) hB.1 dX12_init_343 ac_int (by decide) (by decide) (by decide) ?_
  replace hB := hB.arr (kd := 13) (len := 6) rfl (fun _ => rfl)
  generalize mNew m 13 6 6 = m at hB ⊢
  refine r_putRF (y := m12_init) (ci := 12) (j := 56) (ty := (.array .int)) dX12_init_345 (congrArg Prod.fst ((hB.kd (by omega)).trans (show shp 668 = (12, 0) from rfl))) (by decide) (by decide) (by decide) (r8_law _ (List.mem_of_getElem? (i := 22) rfl)) rfl rfl rfl (by decide +kernel) (fun _ => ⟨rfl, rfl⟩) ?_
  replace hB := hB.putR (a := 668) (j := 56) (b := 708) rfl
  generalize mSetR m 668 56 (some 708) = m at hB ⊢
  refine r_aload_n (y := m12_init) dX12_init_348 rfl rfl ?_
  refine r_sipush (y := m12_init) (v := 5000) dX12_init_349 (by decide) ?_
  refine r_newIk (y := m12_init) (k := 709) (N := 5000) hB.1 dX12_init_352 ac_int (by decide) (by decide) (by decide) ?_
  replace hB := hB.arr (kd := 13) (len := 5000) rfl (fun _ => rfl)
  generalize mNew m 13 5000 5000 = m at hB ⊢
  refine r_putRF (y := m12_init) (ci := 12) (j := 59) (ty := (.array .int)) dX12_init_354 (congrArg Prod.fst ((hB.kd (by omega)).trans (show shp 668 = (12, 0) from rfl))) (by decide) (by decide) (by decide) (r8_law _ (List.mem_of_getElem? (i := 23) rfl)) rfl rfl rfl (by decide +kernel) (fun _ => ⟨rfl, rfl⟩) ?_
  replace hB := hB.putR (a := 668) (j := 59) (b := 709) rfl
  generalize mSetR m 668 59 (some 709) = m at hB ⊢
  refine r_aload_n (y := m12_init) dX12_init_357 rfl rfl ?_
  refine r_sipush (y := m12_init) (v := 5000) dX12_init_358 (by decide) ?_
  refine r_newIk (y := m12_init) (k := 710) (N := 5000) hB.1 dX12_init_361 ac_int (by decide) (by decide) (by decide) ?_
  replace hB := hB.arr (kd := 13) (len := 5000) rfl (fun _ => rfl)
  generalize mNew m 13 5000 5000 = m at hB ⊢
  refine r_putRF (y := m12_init) (ci := 12) (j := 60) (ty := (.array .int)) dX12_init_363 (congrArg Prod.fst ((hB.kd (by omega)).trans (show shp 668 = (12, 0) from rfl))) (by decide) (by decide) (by decide) (r9_law _ (List.mem_of_getElem? (i := 0) rfl)) rfl rfl rfl (by decide +kernel) (fun _ => ⟨rfl, rfl⟩) ?_
  replace hB := hB.putR (a := 668) (j := 60) (b := 710) rfl
  generalize mSetR m 668 60 (some 710) = m at hB ⊢
  refine r_aload_n (y := m12_init) dX12_init_366 rfl rfl ?_
  refine r_ldc (y := m12_init) (v := 205000) dX12_init_367 (by decide +kernel) ?_
  refine r_newIk (y := m12_init) (k := 711) (N := 205000) hB.1 dX12_init_369 ac_int (by decide) (by decide) (by decide) ?_
  replace hB := hB.arr (kd := 13) (len := 205000) rfl (fun _ => rfl)
  generalize mNew m 13 205000 205000 = m at hB ⊢
  refine r_putRF (y := m12_init) (ci := 12) (j := 61) (ty := (.array .int)) dX12_init_371 (congrArg Prod.fst ((hB.kd (by omega)).trans (show shp 668 = (12, 0) from rfl))) (by decide) (by decide) (by decide) (r9_law _ (List.mem_of_getElem? (i := 2) rfl)) rfl rfl rfl (by decide +kernel) (fun _ => ⟨rfl, rfl⟩) ?_
  replace hB := hB.putR (a := 668) (j := 61) (b := 711) rfl
  generalize mSetR m 668 61 (some 711) = m at hB ⊢
  refine r_aload_n (y := m12_init) dX12_init_374 rfl rfl ?_
  refine r_bipush (y := m12_init) (v := 40) dX12_init_375 (by decide) ?_
  refine r_newIk (y := m12_init) (k := 712) (N := 40) hB.1 dX12_init_377 ac_int (by decide) (by decide) (by decide) ?_
  replace hB := hB.arr (kd := 13) (len := 40) rfl (fun _ => rfl)
  generalize mNew m 13 40 40 = m at hB ⊢
  refine r_putRF (y := m12_init) (ci := 12) (j := 62) (ty := (.array .int)) dX12_init_379 (congrArg Prod.fst ((hB.kd (by omega)).trans (show shp 668 = (12, 0) from rfl))) (by decide) (by decide) (by decide) (r9_law _ (List.mem_of_getElem? (i := 3) rfl)) rfl rfl rfl (by decide +kernel) (fun _ => ⟨rfl, rfl⟩) ?_
  replace hB := hB.putR (a := 668) (j := 62) (b := 712) rfl
  generalize mSetR m 668 62 (some 712) = m at hB ⊢
  refine r_aload_n (y := m12_init) dX12_init_382 rfl rfl ?_
  refine r_bipush (y := m12_init) (v := 41) dX12_init_383 (by decide) ?_
  refine r_newIk (y := m12_init) (k := 713) (N := 41) hB.1 dX12_init_385 ac_int (by decide) (by decide) (by decide) ?_
  replace hB := hB.arr (kd := 13) (len := 41) rfl (fun _ => rfl)
  generalize mNew m 13 41 41 = m at hB ⊢
  refine r_putRF (y := m12_init) (ci := 12) (j := 63) (ty := (.array .int)) dX12_init_387 (congrArg Prod.fst ((hB.kd (by omega)).trans (show shp 668 = (12, 0) from rfl))) (by decide) (by decide) (by decide) (r9_law _ (List.mem_of_getElem? (i := 4) rfl)) rfl rfl rfl (by decide +kernel) (fun _ => ⟨rfl, rfl⟩) ?_
  replace hB := hB.putR (a := 668) (j := 63) (b := 713) rfl
  generalize mSetR m 668 63 (some 713) = m at hB ⊢
  refine r_aload_n (y := m12_init) dX12_init_390 rfl rfl ?_
  refine r_iconst (y := m12_init) (v := 0) dX12_init_391 (by decide) ?_
  refine r_putI (y := m12_init) (ci := 12) (j := 12) (ty := .int) dX12_init_392 (congrArg Prod.fst ((hB.kd (by omega)).trans (show shp 668 = (12, 0) from rfl))) (by decide) (by decide) (by decide) (r9_law _ (List.mem_of_getElem? (i := 5) rfl)) rfl (by decide +kernel) rfl rfl ?_
  replace hB := hB.putI (a := 668) (j := 12) (v := 0) (Or.inr rfl)
  generalize mSetI m 668 12 0 = m at hB ⊢
  refine r_ret (y := m12_init) dX12_init_395 rfl (hK m (hB.close rfl (by omega) (by omega) (fun a j h => ?_)))
  have h0 : g a j ∨ a = 668 := h.1.1.1.1.1.1.1.1.1.1.1.1.1.1.1.1.1.1.1.1.1.1.1.1.1.1.1.1.1.1.1.1.1.1.1.1.1.1.1.1.1.1.1.1.1
  rcases h0 with q | q
  · exact Or.inl q
  · subst q
    exact Or.inr (by
      rcases j with _ | _ | _ | _ | _ | _ | _ | _ | _ | _ | _ | _ | _ | _ | _ | _ | _ | _ | _ | _ | _ | _ | _ | _ | _ | _ | _ | _ | _ | _ | _ | _ | _ | _ | _ | _ | _ | _ | _ | _ | _ | _ | _ | _ | _ | _ | _ | _ | _ | _ | _ | _ | _ | _ | _ | _ | _ | _ | _ | _ | _ | _ | _ | _ | j
      all_goals first | rfl | (exfalso; simp at h))
theorem c_X12 {g : Nat → Nat → Prop} {c z : Nat} {m : Mm} (hB : Bld 669 (fun a j => g a j ∨ a = 668) c z m) : C m12_init [.ref 668] m (fun o m' => o = .inl none ∧ Bld 714 g (c + 45) (z + 383335) m') :=
  C.of (L := [some (.ref 668)]) (by decide +kernel) (Nat.le_of_ble_eq_true rfl) rfl (i_X12 hB (fun _ h => ⟨rfl, h⟩))
