/-! EXPRESSION'S CONSTRUCTOR -/
/-- what there was stays -/
def Gr (m m' : Mm) : Prop := mN m ≤ mN m' ∧ ∀ a, a < mN m → mS m' a = mS m a ∧ mI m' a = mI m a ∧ mR m' a = mR m a
theorem Gr.refl {m : Mm} : Gr m m := ⟨Nat.le_refl _, fun _ _ => ⟨rfl, rfl, rfl⟩⟩
theorem Gr.trans {m m1 m2 : Mm} (h : Gr m m1) (h2 : Gr m1 m2) : Gr m m2 := ⟨Nat.le_trans h.1 h2.1, fun a ha => by
  obtain ⟨q1, q2, q3⟩ := h.2 a ha
  obtain ⟨p1, p2, p3⟩ := h2.2 a (Nat.lt_of_lt_of_le ha h.1)
  exact ⟨p1.trans q1, p2.trans q2, p3.trans q3⟩⟩
theorem Gr.st {m m1 : Mm} (h : Gr m m1) (hm : St m) : St m1 := by
  obtain ⟨h1, h2, h3⟩ := hm
  refine ⟨fun a ha => ?_, fun a j b hs => ?_, Nat.le_trans h3 h.1⟩
  · rw [(h.2 a (Nat.lt_of_lt_of_le ha h3)).1]
    exact h1 a ha
  · have ha : a < nSt := by
      rcases Nat.lt_or_ge a nSt with q | q
      · exact q
      · exfalso
        unfold nSt at q
        unfold stR at hs
        rw [if_neg (by omega), if_neg (by omega), if_neg (by omega), if_neg (by omega), if_neg (by omega)] at hs
        have hz : ∀ (l : List ((Nat × Nat) × Nat)), (∀ q ∈ l, q.1.1 = 668) → l.lookup (a, j) = none := by
          intro l hl
          induction l with
          | nil => rfl
          | cons q l ih =>
            obtain ⟨⟨x, z⟩, w⟩ := q
            have hx : x = 668 := hl _ List.mem_cons_self
            have hb : ((a, j) == (x, z)) = false := by
              apply beq_eq_false_iff_ne.mpr
              intro q
              have := congrArg Prod.fst q
              simp only at this
              omega
            rw [List.lookup_cons, hb]
            exact ih (fun q hq => hl q (List.mem_cons_of_mem _ hq))
        rw [hz refM (by decide)] at hs
        cases hs
    rw [(h.2 a (Nat.lt_of_lt_of_le ha h3)).2.2]
    exact h2 a j b hs
theorem Gr.cn {m m1 : Mm} {nds : List Tr} (h : Gr m m1) (hm : St m) (hc : CN m nds) : CN m1 nds := by
  have h3 : 714 ≤ mN m := hm.2.2
  have e : ∀ a, a < 7 → mI m1 a = mI m a := fun a ha => (h.2 a (by omega)).2.1
  refine ⟨?_, hc.2.1, fun i t ht => ?_⟩
  · rw [e 1 (by decide)]
    exact hc.1
  · rw [e 2 (by decide), e 3 (by decide), e 4 (by decide), e 5 (by decide), e 6 (by decide)]
    exact hc.2.2 i t ht
/-- k rows of the new expression are made -/
def XB (m0 : Mm) (z k : Nat) (m : Mm) : Prop := Gr m0 m ∧ mN m = mN m0 + 1 + k ∧ mC m = mC m0 + 1 + k ∧ mZ m = mZ m0 + 7 + z * k ∧ mS m (mN m0) = (0, 0) ∧ mI m (mN m0) 0 = nn z ∧ ∀ j, 1 ≤ j → j ≤ k → mS m (mN m0 + j) = (13, z) ∧ (∀ i, mI m (mN m0 + j) i = 0) ∧ (j < 7 → mR m (mN m0) j = some (mN m0 + j))
theorem XB.new {m0 m : Mm} {z k : Nat} (h : XB m0 z k m) (hk : k < 7) : mS (mNew m 13 z z) (mN m0) = (0, 0) ∧ mI (mNew m 13 z z) (mN m0) 0 = nn z ∧ (k < 6 → XB m0 z (k + 1) (mSetR (mNew m 13 z z) (mN m0) (k + 1) (some (mN m0 + 1 + k)))) ∧ (k = 6 → XB m0 z 7 (mNew m 13 z z)) := by
  obtain ⟨h1, h2, h3, h4, h5, h6, h7⟩ := h
  have eN : m.1 = mN m0 + 1 + k := h2
  have ne : ∀ a, a < mN m0 + 1 + k → a ≠ m.1 := fun a ha => by omega
  have gS : ∀ a, a < mN m0 + 1 + k → mS (mNew m 13 z z) a = mS m a := fun a ha => if_neg (ne a ha)
  have gI : ∀ a, a < mN m0 + 1 + k → mI (mNew m 13 z z) a = mI m a := fun a ha => if_neg (ne a ha)
  have gR : ∀ a, a < mN m0 + 1 + k → mR (mNew m 13 z z) a = mR m a := fun a ha => if_neg (ne a ha)
  have nS : mS (mNew m 13 z z) (mN m0 + 1 + k) = (13, z) := by rw [← eN]; exact if_pos rfl
  have nI : mI (mNew m 13 z z) (mN m0 + 1 + k) = fun _ => 0 := by rw [← eN]; exact if_pos rfl
  have gg : Gr m0 (mNew m 13 z z) := ⟨by show mN m0 ≤ m.1 + 1; omega, fun a ha => by
    rw [gS a (by omega), gI a (by omega), gR a (by omega)]
    exact h1.2 a ha⟩
  have eZ : mZ m0 + 7 + z * k + z = mZ m0 + 7 + z * (k + 1) := by rw [Nat.mul_succ]; omega
  refine ⟨(gS _ (by omega)).trans h5, by rw [gI _ (by omega)]; exact h6, fun hk6 => ?_, fun hk6 => ?_⟩
  · refine ⟨⟨gg.1, fun a ha => ⟨(gg.2 a ha).1, (gg.2 a ha).2.1, ?_⟩⟩, by show m.1 + 1 = _; omega, by show m.2.1 + 1 = _; have : m.2.1 = mC m0 + 1 + k := h3; omega, by show m.2.2.1 + z = _; have : m.2.2.1 = mZ m0 + 7 + z * k := h4; omega, (gS _ (by omega)).trans h5, by show mI (mNew m 13 z z) (mN m0) 0 = _; rw [gI _ (by omega)]; exact h6, fun j j1 j2 => ?_⟩
    · funext j
      rw [mR_setR, if_neg (by omega)]
      exact congrFun (gg.2 a ha).2.2 j
    · by_cases e : j = k + 1
      · subst e
        rw [show mN m0 + (k + 1) = mN m0 + 1 + k by omega]
        refine ⟨nS, fun i => ?_, fun _ => ?_⟩
        · show mI (mNew m 13 z z) _ i = 0
          rw [nI]
        · rw [mR_setR, if_pos ⟨rfl, rfl⟩]
      · obtain ⟨p1, p2, p3⟩ := h7 j j1 (by omega)
        refine ⟨(gS _ (by omega)).trans p1, fun i => ?_, fun q => ?_⟩
        · show mI (mNew m 13 z z) _ i = 0
          rw [gI _ (by omega)]
          exact p2 i
        · rw [mR_setR, if_neg (by omega), gR _ (by omega)]
          exact p3 q
  · subst hk6
    refine ⟨gg, by show m.1 + 1 = _; omega, by show m.2.1 + 1 = _; have : m.2.1 = mC m0 + 1 + 6 := h3; omega, by show m.2.2.1 + z = _; have : m.2.2.1 = mZ m0 + 7 + z * 6 := h4; omega, (gS _ (by omega)).trans h5, by rw [gI _ (by omega)]; exact h6, fun j j1 j2 => ?_⟩
    by_cases e : j = 7
    · subst e
      rw [show mN m0 + 7 = mN m0 + 1 + 6 by omega]
      exact ⟨nS, fun i => by rw [nI], fun q => absurd q (by decide)⟩
    · obtain ⟨p1, p2, p3⟩ := h7 j j1 (by omega)
      refine ⟨(gS _ (by omega)).trans p1, fun i => ?_, fun q => ?_⟩
      · rw [gI _ (by omega)]
        exact p2 i
      · rw [gR _ (by omega)]
        exact p3 q
set_option maxHeartbeats 4000000 in
set_option maxRecDepth 100000 in
theorem s0_init {nf : Nat} {fp : Nat → Nat} {nds : List Tr} {m0 : Mm} {a : Int32} {t : Tr} (hnf : nf ≤ 8) (hm : St m0) (hc : CN m0 nds) (ht : nget nds a = some t) (hw : twf nf fp t) : C m0_init [.ref (mN m0), .ref 1, .int a] (mNew m0 0 0 7) (fun o m' => o = .inl none ∧ Gr m0 m' ∧ ExpT m' (mN m0) t ∧ mN m' = mN m0 + 8 ∧ mC m' = mC m0 + 8 ∧ mZ m' = mZ m0 + 7 + 7 * tsz t) := by
  have h714 : 714 ≤ mN m0 := hm.2.2
  obtain ⟨g1, g2, g3⟩ := nget_some ht
  obtain ⟨-, -, -, -, -, n6⟩ := hc.2.2 _ _ g3
  have hN := hc.2.1
  have hz1 := tsz_pos hw
  refine C.of (L := [some (.ref (mN m0)), some (.ref 1), some (.int a), none, none, none, none, none]) (by decide +kernel) (Nat.le_of_ble_eq_true rfl) rfl ?_
  have G1 : Gr m0 (mNew m0 0 0 7) := ⟨Nat.le_succ _, fun x hx => ⟨if_neg (Nat.ne_of_lt hx), if_neg (Nat.ne_of_lt hx), if_neg (Nat.ne_of_lt hx)⟩⟩
  have s1 : St (mNew m0 0 0 7) := St.new hm
  have c1 : CN (mNew m0 0 0 7) nds := G1.cn hm hc
  have e1 : mS (mNew m0 0 0 7) (mN m0) = (0, 0) := if_pos rfl
  refine r_aload_n (y := m0_init) dX0_init_0 rfl rfl ?_
  refine r_objInit (y := m0_init) dX0_init_1 oi_X0 oi_inst oi_code (by decide) (Nat.le_of_ble_eq_true rfl) ?_
  refine r_aload_n (y := m0_init) dX0_init_4 rfl rfl ?_
  refine r_aload_n (y := m0_init) dX0_init_5 rfl rfl ?_
  refine r_iload_n (y := m0_init) dX0_init_6 rfl rfl ?_
  refine r_callVN (y := m0_init) (As := [(.int a)]) (b := 1) (ci := 4) dX0_init_7 rfl k4_sizeOf lm_X0_9 rfl ⟨by decide, by decide⟩ (so_1 s1) (by decide) rfl (Nat.le_of_ble_eq_true rfl) (C.mono (s4_sizeOf s1 c1 a) ?_)
  rintro o m' ⟨rfl, rfl⟩
  refine ⟨_, rfl, ?_⟩
  rw [ht]
  show V m0_init 10 _ [.int (nn (tsz t)), .ref (mN m0)] _ _
  generalize hzt : tsz t = z at *
  refine r_putIF (y := m0_init) (ci := 0) (j := 0) (ty := .int) dX0_init_10 (congrArg Prod.fst e1) (by decide) (by decide) (by decide) (r17_law _ (List.mem_of_getElem? (i := 8) rfl)) rfl rfl rfl (by decide +kernel) rfl rfl ?_
  have b0 : XB m0 z 0 (mSetI (mNew m0 0 0 7) (mN m0) 0 (nn z)) := by
    refine ⟨⟨G1.1, fun x hx => ⟨(G1.2 x hx).1, ?_, (G1.2 x hx).2.2⟩⟩, rfl, rfl, rfl, e1, ?_, fun j j1 j2 => by omega⟩
    · funext j
      rw [mI_set, if_neg (by omega)]
      exact congrFun (G1.2 x hx).2.1 j
    · rw [mI_set, if_pos ⟨rfl, rfl⟩]
  generalize mSetI (mNew m0 0 0 7) (mN m0) 0 (nn z) = m at b0 ⊢
  refine r_aload_n (y := m0_init) dX0_init_13 rfl rfl ?_
  refine r_aload_n (y := m0_init) dX0_init_14 rfl rfl ?_
  refine r_getI (y := m0_init) (ci := 0) (j := 0) dX0_init_15 (congrArg Prod.fst b0.2.2.2.2.1) (by decide) (by decide) (by decide) (r17_law _ (List.mem_of_getElem? (i := 8) rfl)) ?_
  rw [b0.2.2.2.2.2.1]
  refine r_newIk (y := m0_init) (k := mN m0 + 1 + 0) (N := z) b0.2.1 dX0_init_18 ac_int (nn_neg (by omega)) (nn_tn (by omega)) (by omega) ?_
  refine r_putRF (y := m0_init) (ci := 0) (j := 1) (ty := (.array .int)) dX0_init_20 (congrArg Prod.fst (b0.new (by decide)).1) (by decide) (by decide) (by decide) (r17_law _ (List.mem_of_getElem? (i := 9) rfl)) rfl rfl rfl (by decide +kernel) (fun _ => ⟨rfl, rfl⟩) ?_
  have b1 := (b0.new (by decide)).2.2.1 (by decide)
  generalize mSetR (mNew m 13 z z) (mN m0) (0 + 1) (some (mN m0 + 1 + 0)) = m2 at b1 ⊢
  clear b0
  revert b1
  generalize m2 = m
  intro b1
  refine r_aload_n (y := m0_init) dX0_init_23 rfl rfl ?_
  refine r_aload_n (y := m0_init) dX0_init_24 rfl rfl ?_
  refine r_getI (y := m0_init) (ci := 0) (j := 0) dX0_init_25 (congrArg Prod.fst b1.2.2.2.2.1) (by decide) (by decide) (by decide) (r17_law _ (List.mem_of_getElem? (i := 8) rfl)) ?_
  rw [b1.2.2.2.2.2.1]
  refine r_newIk (y := m0_init) (k := mN m0 + 1 + 1) (N := z) b1.2.1 dX0_init_28 ac_int (nn_neg (by omega)) (nn_tn (by omega)) (by omega) ?_
  refine r_putRF (y := m0_init) (ci := 0) (j := 2) (ty := (.array .int)) dX0_init_30 (congrArg Prod.fst (b1.new (by decide)).1) (by decide) (by decide) (by decide) (r17_law _ (List.mem_of_getElem? (i := 10) rfl)) rfl rfl rfl (by decide +kernel) (fun _ => ⟨rfl, rfl⟩) ?_
  have b2 := (b1.new (by decide)).2.2.1 (by decide)
  generalize mSetR (mNew m 13 z z) (mN m0) (1 + 1) (some (mN m0 + 1 + 1)) = m2 at b2 ⊢
  clear b1
  revert b2
  generalize m2 = m
  intro b2
  refine r_aload_n (y := m0_init) dX0_init_33 rfl rfl ?_
  refine r_aload_n (y := m0_init) dX0_init_34 rfl rfl ?_
  refine r_getI (y := m0_init) (ci := 0) (j := 0) dX0_init_35 (congrArg Prod.fst b2.2.2.2.2.1) (by decide) (by decide) (by decide) (r17_law _ (List.mem_of_getElem? (i := 8) rfl)) ?_
  rw [b2.2.2.2.2.2.1]
  refine r_newIk (y := m0_init) (k := mN m0 + 1 + 2) (N := z) b2.2.1 dX0_init_38 ac_int (nn_neg (by omega)) (nn_tn (by omega)) (by omega) ?_
  refine r_putRF (y := m0_init) (ci := 0) (j := 3) (ty := (.array .int)) dX0_init_40 (congrArg Prod.fst (b2.new (by decide)).1) (by decide) (by decide) (by decide) (r17_law _ (List.mem_of_getElem? (i := 11) rfl)) rfl rfl rfl (by decide +kernel) (fun _ => ⟨rfl, rfl⟩) ?_
  have b3 := (b2.new (by decide)).2.2.1 (by decide)
  generalize mSetR (mNew m 13 z z) (mN m0) (2 + 1) (some (mN m0 + 1 + 2)) = m2 at b3 ⊢
  clear b2
  revert b3
  generalize m2 = m
  intro b3
  refine r_aload_n (y := m0_init) dX0_init_43 rfl rfl ?_
  refine r_aload_n (y := m0_init) dX0_init_44 rfl rfl ?_
  refine r_getI (y := m0_init) (ci := 0) (j := 0) dX0_init_45 (congrArg Prod.fst b3.2.2.2.2.1) (by decide) (by decide) (by decide) (r17_law _ (List.mem_of_getElem? (i := 8) rfl)) ?_
  rw [b3.2.2.2.2.2.1]
  refine r_newIk (y := m0_init) (k := mN m0 + 1 + 3) (N := z) b3.2.1 dX0_init_48 ac_int (nn_neg (by omega)) (nn_tn (by omega)) (by omega) ?_
  refine r_putRF (y := m0_init) (ci := 0) (j := 4) (ty := (.array .int)) dX0_init_50 (congrArg Prod.fst (b3.new (by decide)).1) (by decide) (by decide) (by decide) (r17_law _ (List.mem_of_getElem? (i := 12) rfl)) rfl rfl rfl (by decide +kernel) (fun _ => ⟨rfl, rfl⟩) ?_
  have b4 := (b3.new (by decide)).2.2.1 (by decide)
  generalize mSetR (mNew m 13 z z) (mN m0) (3 + 1) (some (mN m0 + 1 + 3)) = m2 at b4 ⊢
  clear b3
  revert b4
  generalize m2 = m
  intro b4
  refine r_aload_n (y := m0_init) dX0_init_53 rfl rfl ?_
  refine r_aload_n (y := m0_init) dX0_init_54 rfl rfl ?_
  refine r_getI (y := m0_init) (ci := 0) (j := 0) dX0_init_55 (congrArg Prod.fst b4.2.2.2.2.1) (by decide) (by decide) (by decide) (r17_law _ (List.mem_of_getElem? (i := 8) rfl)) ?_
  rw [b4.2.2.2.2.2.1]
  refine r_newIk (y := m0_init) (k := mN m0 + 1 + 4) (N := z) b4.2.1 dX0_init_58 ac_int (nn_neg (by omega)) (nn_tn (by omega)) (by omega) ?_
  refine r_putRF (y := m0_init) (ci := 0) (j := 5) (ty := (.array .int)) dX0_init_60 (congrArg Prod.fst (b4.new (by decide)).1) (by decide) (by decide) (by decide) (r17_law _ (List.mem_of_getElem? (i := 13) rfl)) rfl rfl rfl (by decide +kernel) (fun _ => ⟨rfl, rfl⟩) ?_
  have b5 := (b4.new (by decide)).2.2.1 (by decide)
  generalize mSetR (mNew m 13 z z) (mN m0) (4 + 1) (some (mN m0 + 1 + 4)) = m2 at b5 ⊢
  clear b4
  revert b5
  generalize m2 = m
  intro b5
  refine r_aload_n (y := m0_init) dX0_init_63 rfl rfl ?_
  refine r_aload_n (y := m0_init) dX0_init_64 rfl rfl ?_
  refine r_getI (y := m0_init) (ci := 0) (j := 0) dX0_init_65 (congrArg Prod.fst b5.2.2.2.2.1) (by decide) (by decide) (by decide) (r17_law _ (List.mem_of_getElem? (i := 8) rfl)) ?_
  rw [b5.2.2.2.2.2.1]
  refine r_newIk (y := m0_init) (k := mN m0 + 1 + 5) (N := z) b5.2.1 dX0_init_68 ac_int (nn_neg (by omega)) (nn_tn (by omega)) (by omega) ?_
  refine r_putRF (y := m0_init) (ci := 0) (j := 6) (ty := (.array .int)) dX0_init_70 (congrArg Prod.fst (b5.new (by decide)).1) (by decide) (by decide) (by decide) (r17_law _ (List.mem_of_getElem? (i := 14) rfl)) rfl rfl rfl (by decide +kernel) (fun _ => ⟨rfl, rfl⟩) ?_
  have b6 := (b5.new (by decide)).2.2.1 (by decide)
  generalize mSetR (mNew m 13 z z) (mN m0) (5 + 1) (some (mN m0 + 1 + 5)) = m2 at b6 ⊢
  clear b5
  revert b6
  generalize m2 = m
  intro b6
  refine r_aload_n (y := m0_init) dX0_init_73 rfl rfl ?_
  refine r_getI (y := m0_init) (ci := 0) (j := 0) dX0_init_74 (congrArg Prod.fst b6.2.2.2.2.1) (by decide) (by decide) (by decide) (r17_law _ (List.mem_of_getElem? (i := 8) rfl)) ?_
  rw [b6.2.2.2.2.2.1]
  refine r_newIk (y := m0_init) (k := mN m0 + 1 + 6) (N := z) b6.2.1 dX0_init_77 ac_int (nn_neg (by omega)) (nn_tn (by omega)) (by omega) ?_
  have b7 := (b6.new (by decide)).2.2.2 rfl
  generalize mNew m 13 z z = m at b7 ⊢
  clear b6
  rw [show mN m0 + 1 + 6 = mN m0 + 7 by omega]
  refine r_astore_n (y := m0_init) (L' := [some (.ref (mN m0)), some (.ref 1), some (.int a), some (.ref (mN m0 + 7)), none, none, none, none]) dX0_init_79 rfl (Nat.le_of_ble_eq_true rfl) rfl ?_
  obtain ⟨B1, B2, B3, B4, B5, B6, B7⟩ := b7
  refine r_aload_n (y := m0_init) dX0_init_80 rfl rfl ?_
  refine r_getI (y := m0_init) (ci := 0) (j := 0) dX0_init_81 (congrArg Prod.fst B5) (by decide) (by decide) (by decide) (r17_law _ (List.mem_of_getElem? (i := 8) rfl)) ?_
  rw [B6]
  have lz : nn z ≤ 0 ↔ z ≤ 0 := nn_le (b := 0) (by omega) (by decide)
  refine r_if_le (y := m0_init) (tgt := 96) dX0_init_84 (by decide) (fun hc1 => ?_) (fun hc1 => ?_)
  · rw [lz] at hc1
    omega
  refine r_aload_n (y := m0_init) dX0_init_87 rfl rfl ?_
  refine r_aload_n (y := m0_init) dX0_init_88 rfl rfl ?_
  refine r_getI (y := m0_init) (ci := 0) (j := 0) dX0_init_89 (congrArg Prod.fst B5) (by decide) (by decide) (by decide) (r17_law _ (List.mem_of_getElem? (i := 8) rfl)) ?_
  rw [B6]
  refine r_iconst (y := m0_init) (v := 1) dX0_init_92 (by decide) ?_
  refine r_isub (y := m0_init) dX0_init_93 ?_
  rw [nn_pred hz1]
  refine r_iload_n (y := m0_init) dX0_init_94 rfl rfl ?_
  refine r_iast (y := m0_init) (n := z) dX0_init_95 (B7 7 (by decide) (by decide)).1 (nn_in (by omega) (by omega)) ?_
  rw [nn_tn (by omega)]
  generalize hM : mSetI m (mN m0 + 7) (z - 1) a = M
  have fM : Fr (fun x j => x = mN m0 + 7 ∧ j = z - 1) m M := by
    rw [← hM]
    exact Fr.refl.set ⟨rfl, rfl⟩
  have gM : Gr m0 M := by
    rw [← hM]
    refine ⟨B1.1, fun x hx => ⟨(B1.2 x hx).1, ?_, (B1.2 x hx).2.2⟩⟩
    funext j
    rw [mI_set, if_neg (by omega)]
    exact congrFun (B1.2 x hx).2.1 j
  have sM : St M := gM.st hm
  have cM : CN M nds := gM.cn hm hc
  have xM : isExp M (mN m0) z := by
    unfold isExp
    rw [fM.s, fM.r]
    exact ⟨B5, fun j j1 j2 => ⟨(B7 j j1 (by omega)).2.2 j2, (B7 j j1 (by omega)).1⟩⟩
  have s7 : mS M (mN m0 + 7) = (13, z) := by
    rw [fM.s]
    exact (B7 7 (by decide) (by decide)).1
  refine r_aload_n (y := m0_init) dX0_init_96 rfl rfl ?_
  refine r_getI (y := m0_init) (ci := 0) (j := 0) dX0_init_97 (congrArg Prod.fst xM.1) (by decide) (by decide) (by decide) (r17_law _ (List.mem_of_getElem? (i := 8) rfl)) ?_
  rw [fM.i (by omega), B6]
  refine r_iconst (y := m0_init) (v := 1) dX0_init_100 (by decide) ?_
  refine r_isub (y := m0_init) dX0_init_101 ?_
  rw [nn_pred hz1]
  refine r_istore (y := m0_init) (L' := [some (.ref (mN m0)), some (.ref 1), some (.int a), some (.ref (mN m0 + 7)), some (.int (nn (z - 1))), none, none, none]) dX0_init_102 (Nat.le_of_ble_eq_true rfl) rfl ?_
  refine x_tree (nf := nf) (fp := fp) hnf h714 n6 hw 0 0 (z - 1) a.toNatClampNeg M _ sM cM xM s7 (by omega) (by omega) ?_ g3 ?_ (fun m' f p => ?_)
  · rw [← hM, mI_set, if_pos ⟨rfl, rfl⟩]
    exact nn_of g1
  · rw [fM.i (by omega)]
    exact (B7 6 (by decide) (by decide)).2.1 _
  · have x' : isExp m' (mN m0) z := by
      unfold isExp
      rw [f.s, f.r]
      exact xM
    refine w0_init_104 (f.st sM) x' (by rw [f.s]; exact s7) ⟨fun _ => ⟨rfl, ?_, ⟨h714, ?_, by rw [hzt]; exact x', ?_, p⟩, ?_, ?_, ?_⟩, fun q => absurd (by decide) q⟩
    · refine ⟨by rw [f.1]; exact gM.1, fun x hx => ⟨by rw [f.s]; exact (gM.2 x hx).1, ?_, by rw [f.r]; exact (gM.2 x hx).2.2⟩⟩
      rw [← (gM.2 x hx).2.1]
      funext j
      exact f.i (by unfold Rg; omega)
    · rw [f.1, fM.1, B2]
      omega
    · rw [f.i (by unfold Rg; omega), fM.i (by omega), hzt]
      exact B6
    · rw [f.1, fM.1, B2]
    · rw [f.2.1, fM.2.1, B3]
    · rw [f.2.2.1, fM.2.2.1, B4, Nat.mul_comm]
