/-! written by gen/drive.py -/
set_option maxHeartbeats 4000000 in
set_option maxRecDepth 100000 in
theorem w1_keep {m : Mm} {K : Option Value ⊕ String → Mm → Prop} (hm : St m) {i0 : Nat} {a1 : Int32} (hi0 : i0 < 10) (h : C m1_tellRow [(.ref (548 + 12 * i0)), (.ref 13), (.int a1), (.ref (548 + 12 * i0 + 1))] (mSetI m (548 + 12 * i0) 3 (mI m 12 11)) (fun o m1 => o = .inl none ∧ St m1 ∧ vp_in 0 102 ∧ V m1_keep 34 [some (.ref (548 + 12 * i0)), some (.ref 12), some (.int a1), some (.ref (32 + 2 * 0)), some (.int 0), none] [] m1 K)) : V m1_keep 0 [some (.ref (548 + 12 * i0)), some (.ref 12), some (.int a1), none, none, none] [] m K := by
  refine r_aload_n (y := m1_keep) dX1_keep_0 rfl rfl ?_
  refine r_aload_n (y := m1_keep) dX1_keep_1 rfl rfl ?_
  refine g_X1_33 (y := m1_keep) rfl dX1_keep_2 hm ?_
  refine p_X1_23 (y := m1_keep) (i := i0) rfl dX1_keep_5 hm hi0 ?_
  refine r_aload_n (y := m1_keep) dX1_keep_8 rfl rfl ?_
  refine r_aload_n (y := m1_keep) dX1_keep_9 rfl rfl ?_
  refine g_X1_36 (y := m1_keep) rfl dX1_keep_10 (St.i hm) ?_
  refine r_iload_n (y := m1_keep) dX1_keep_13 rfl rfl ?_
  refine r_aload_n (y := m1_keep) dX1_keep_14 rfl rfl ?_
  refine g_X1_9 (y := m1_keep) (i := i0) rfl dX1_keep_15 (St.i hm) hi0 ?_
  refine r_callV (y := m1_keep) (As := [(.ref 13), (.int a1), (.ref (548 + 12 * i0 + 1))]) (b := (548 + 12 * i0)) (ci := 1) dX1_keep_18 rfl k1_tellRow lm_X1_40 rfl ⟨by decide, by decide⟩ (congrArg Prod.fst (sf_fo (k := 0) (St.i hm) hi0 (by decide))) (by decide) rfl (Nat.le_of_ble_eq_true rfl) (C.mono h ?_)
  rintro _ m1 ⟨rfl, hm2, h⟩
  refine ⟨none, rfl, ?_⟩
  refine r_aload_n (y := m1_keep) dX1_keep_21 rfl rfl ?_
  refine g_X1_44 (y := m1_keep) rfl dX1_keep_22 hm2 ?_
  refine r_iconst (y := m1_keep) (v := 0) dX1_keep_25 (by decide) ?_
  obtain ⟨hb3, h⟩ := h
  have hl4 := vp_lt hb3
  refine r_aald (y := m1_keep) (n := 102) (r := some (31 + 2 * 0)) dX1_keep_26 (sa_28 hm2) (by decide) (by decide) hb3 (sr_sc hm2 hl4) ?_
  refine g_X1_48 (y := m1_keep) (i := 0) rfl dX1_keep_27 hm2 hl4 ?_
  refine r_astore_n (y := m1_keep) (L' := [some (.ref (548 + 12 * i0)), some (.ref 12), some (.int a1), some (.ref (32 + 2 * 0)), none, none]) dX1_keep_30 rfl (Nat.le_of_ble_eq_true rfl) rfl ?_
  refine r_iconst (y := m1_keep) (v := 0) dX1_keep_31 (by decide) ?_
  refine r_istore (y := m1_keep) (L' := [some (.ref (548 + 12 * i0)), some (.ref 12), some (.int a1), some (.ref (32 + 2 * 0)), some (.int 0), none]) dX1_keep_32 (Nat.le_of_ble_eq_true rfl) rfl ?_
  exact h
set_option maxHeartbeats 4000000 in
set_option maxRecDepth 100000 in
theorem w1_keep_34 {m : Mm} {K : Option Value ⊕ String → Mm → Prop} (hm : St m) {jj0 : Nat} {v2 : Int32} {ee3 nn3 : Nat} {v4 : Int32} (hjj0 : jj0 < 10) (hee3 : mS m ee3 = (13, nn3)) (h : ((6 ≤ v4 → V m1_keep 75 [some (.ref (548 + 12 * jj0)), some (.ref 12), some (.int v2), some (.ref ee3), some (.ref (235 + 3 * 0)), some (.int 0)] [] m K) ∧ (¬ 6 ≤ v4 → vp_in v4 nn3 ∧ vp_in v4 6 ∧ C m1_tellRow [(.ref (548 + 12 * jj0)), (.ref 13), (.int (mI m ee3 (Int32.toNatClampNeg v4))), (.ref (548 + 12 * jj0 + 3 + (Int32.toNatClampNeg v4)))] m (fun o m5 => o = .inl none ∧ St m5 ∧ V m1_keep 34 [some (.ref (548 + 12 * jj0)), some (.ref 12), some (.int v2), some (.ref ee3), some (.int (v4 + 1)), none] [] m5 K)))) : V m1_keep 34 [some (.ref (548 + 12 * jj0)), some (.ref 12), some (.int v2), some (.ref ee3), some (.int v4), none] [] m K := by
  refine r_iload (y := m1_keep) dX1_keep_34 rfl ?_
  refine r_bipush (y := m1_keep) (v := 6) dX1_keep_36 (by decide) ?_
  refine r_icmp_ge (y := m1_keep) (tgt := 66) dX1_keep_38 (by decide) (fun hc1 => ?_) (fun hc1 => ?_)
  · have h := h.1 hc1
    refine r_aload_n (y := m1_keep) dX1_keep_66 rfl rfl ?_
    refine g_X1_53 (y := m1_keep) rfl dX1_keep_67 hm ?_
    refine r_astore (y := m1_keep) (L' := [some (.ref (548 + 12 * jj0)), some (.ref 12), some (.int v2), some (.ref ee3), some (.ref (235 + 3 * 0)), none]) dX1_keep_70 (Nat.le_of_ble_eq_true rfl) rfl ?_
    refine r_iconst (y := m1_keep) (v := 0) dX1_keep_72 (by decide) ?_
    refine r_istore (y := m1_keep) (L' := [some (.ref (548 + 12 * jj0)), some (.ref 12), some (.int v2), some (.ref ee3), some (.ref (235 + 3 * 0)), some (.int 0)]) dX1_keep_73 (Nat.le_of_ble_eq_true rfl) rfl ?_
    exact h
  · have h := h.2 hc1
    refine r_aload_n (y := m1_keep) dX1_keep_41 rfl rfl ?_
    refine r_aload_n (y := m1_keep) dX1_keep_42 rfl rfl ?_
    refine g_X1_36 (y := m1_keep) rfl dX1_keep_43 hm ?_
    refine r_aload_n (y := m1_keep) dX1_keep_46 rfl rfl ?_
    refine r_iload (y := m1_keep) dX1_keep_47 rfl ?_
    obtain ⟨hb2, h⟩ := h
    refine r_iald (y := m1_keep) (n := nn3) dX1_keep_49 hee3 hb2 ?_
    refine r_aload_n (y := m1_keep) dX1_keep_50 rfl rfl ?_
    refine g_X1_17 (y := m1_keep) (i := jj0) rfl dX1_keep_51 hm hjj0 ?_
    refine r_iload (y := m1_keep) dX1_keep_54 rfl ?_
    obtain ⟨hb3, h⟩ := h
    have hl4 := vp_lt hb3
    refine r_aald (y := m1_keep) (n := 6) (r := some (548 + 12 * jj0 + 3 + (Int32.toNatClampNeg v4))) dX1_keep_56 (sf_fo (k := 2) hm hjj0 (by decide)) (by decide) (by decide) hb3 (sr_fb hm hjj0 hl4) ?_
    refine r_callV (y := m1_keep) (As := [(.ref 13), (.int (mI m ee3 (Int32.toNatClampNeg v4))), (.ref (548 + 12 * jj0 + 3 + (Int32.toNatClampNeg v4)))]) (b := (548 + 12 * jj0)) (ci := 1) dX1_keep_57 rfl k1_tellRow lm_X1_40 rfl ⟨by decide, by decide⟩ (congrArg Prod.fst (sf_fo (k := 0) hm hjj0 (by decide))) (by decide) rfl (Nat.le_of_ble_eq_true rfl) (C.mono h ?_)
    rintro _ m5 ⟨rfl, hm6, h⟩
    refine ⟨none, rfl, ?_⟩
    refine r_iinc (y := m1_keep) (v := (v4 + 1)) (L' := [some (.ref (548 + 12 * jj0)), some (.ref 12), some (.int v2), some (.ref ee3), some (.int (v4 + 1)), none]) dX1_keep_60 rfl (by rfl) rfl ?_
    refine r_goto (y := m1_keep) (tgt := 34) dX1_keep_63 (by decide) ?_
    exact h
set_option maxHeartbeats 4000000 in
set_option maxRecDepth 100000 in
theorem w1_keep_75 {m : Mm} {K : Option Value ⊕ String → Mm → Prop} (hm : St m) {jj0 : Nat} {v2 : Int32} {ee3 nn3 : Nat} {jj4 : Nat} {v5 : Int32} (hjj0 : jj0 < 10) (hee3 : mS m ee3 = (13, nn3)) (hjj4 : jj4 < 102) (h : ((40 ≤ v5 → K (.inl none) m) ∧ (¬ 40 ≤ v5 → (((mI m (235 + 3 * jj4) 3) ≤ v5 → vp_in v5 40 ∧ V m1_keep 75 [some (.ref (548 + 12 * jj0)), some (.ref 12), some (.int v2), some (.ref ee3), some (.ref (235 + 3 * jj4)), some (.int (v5 + 1))] [] (mSetI m (548 + 12 * jj0 + 9) (Int32.toNatClampNeg v5) (-1)) K) ∧ (¬ (mI m (235 + 3 * jj4) 3) ≤ v5 → vp_in v5 40 ∧ vp_in v5 40 ∧ V m1_keep 75 [some (.ref (548 + 12 * jj0)), some (.ref 12), some (.int v2), some (.ref ee3), some (.ref (235 + 3 * jj4)), some (.int (v5 + 1))] [] (mSetI m (548 + 12 * jj0 + 9) (Int32.toNatClampNeg v5) (mI m (236 + 3 * jj4) (Int32.toNatClampNeg v5))) K))))) : V m1_keep 75 [some (.ref (548 + 12 * jj0)), some (.ref 12), some (.int v2), some (.ref ee3), some (.ref (235 + 3 * jj4)), some (.int v5)] [] m K := by
  refine r_iload (y := m1_keep) dX1_keep_75 rfl ?_
  refine r_bipush (y := m1_keep) (v := 40) dX1_keep_77 (by decide) ?_
  refine r_icmp_ge (y := m1_keep) (tgt := 117) dX1_keep_79 (by decide) (fun hc1 => ?_) (fun hc1 => ?_)
  · have h := h.1 hc1
    exact r_ret (y := m1_keep) dX1_keep_117 rfl h
  · have h := h.2 hc1
    refine r_aload_n (y := m1_keep) dX1_keep_82 rfl rfl ?_
    refine g_X1_20 (y := m1_keep) (i := jj0) rfl dX1_keep_83 hm hjj0 ?_
    refine r_iload (y := m1_keep) dX1_keep_86 rfl ?_
    refine r_iload (y := m1_keep) dX1_keep_88 rfl ?_
    refine r_aload (y := m1_keep) dX1_keep_90 rfl ?_
    refine g_X1_57 (y := m1_keep) (i := jj4) rfl dX1_keep_92 hm hjj4 ?_
    refine r_icmp_ge (y := m1_keep) (tgt := 109) dX1_keep_95 (by decide) (fun hc2 => ?_) (fun hc2 => ?_)
    · have h := h.1 hc2
      refine r_iconst (y := m1_keep) (v := (-1)) dX1_keep_109 (by decide) ?_
      obtain ⟨hb3, h⟩ := h
      refine r_iast (y := m1_keep) (n := 40) dX1_keep_110 (sf_fo (k := 9) hm hjj0 (by decide)) hb3 ?_
      refine r_iinc (y := m1_keep) (v := (v5 + 1)) (L' := [some (.ref (548 + 12 * jj0)), some (.ref 12), some (.int v2), some (.ref ee3), some (.ref (235 + 3 * jj4)), some (.int (v5 + 1))]) dX1_keep_111 rfl (by rfl) rfl ?_
      refine r_goto (y := m1_keep) (tgt := 75) dX1_keep_114 (by decide) ?_
      exact h
    · have h := h.2 hc2
      refine r_aload (y := m1_keep) dX1_keep_98 rfl ?_
      refine g_X1_62 (y := m1_keep) (i := jj4) rfl dX1_keep_100 hm hjj4 ?_
      refine r_iload (y := m1_keep) dX1_keep_103 rfl ?_
      obtain ⟨hb4, h⟩ := h
      refine r_iald (y := m1_keep) (n := 40) dX1_keep_105 (sa_lw hm hjj4) hb4 ?_
      refine r_goto (y := m1_keep) (tgt := 110) dX1_keep_106 (by decide) ?_
      obtain ⟨hb5, h⟩ := h
      refine r_iast (y := m1_keep) (n := 40) dX1_keep_110 (sf_fo (k := 9) hm hjj0 (by decide)) hb5 ?_
      refine r_iinc (y := m1_keep) (v := (v5 + 1)) (L' := [some (.ref (548 + 12 * jj0)), some (.ref 12), some (.int v2), some (.ref ee3), some (.ref (235 + 3 * jj4)), some (.int (v5 + 1))]) dX1_keep_111 rfl (by rfl) rfl ?_
      refine r_goto (y := m1_keep) (tgt := 75) dX1_keep_114 (by decide) ?_
      exact h
set_option maxHeartbeats 4000000 in
set_option maxRecDepth 100000 in
theorem w1_tellRow {m : Mm} {K : Option Value ⊕ String → Mm → Prop} (hm : St m) {i0 : Nat} {a1 : Int32} {e2 ne2 : Nat} (hi0 : i0 < 10) (he2 : mS m e2 = (13, ne2)) (h : ((a1 < 0 → V m1_tellRow 23 [some (.ref (548 + 12 * i0)), some (.ref 13), some (.int a1), some (.ref e2), some (.int 0), some (.int 0), some (.int 0), none, none] [] m K) ∧ (¬ a1 < 0 → vp_in 0 42 ∧ V m1_tellRow 23 [some (.ref (548 + 12 * i0)), some (.ref 13), some (.int a1), some (.ref e2), some (.int 1), some (.int 0), some (.int 0), none, none] [] (mSetI m (548 + 12 * i0 + 11) 0 a1) K))) : V m1_tellRow 0 [some (.ref (548 + 12 * i0)), some (.ref 13), some (.int a1), some (.ref e2), none, none, none, none, none] [] m K := by
  refine r_iconst (y := m1_tellRow) (v := 0) dX1_tellRow_0 (by decide) ?_
  refine r_istore (y := m1_tellRow) (L' := [some (.ref (548 + 12 * i0)), some (.ref 13), some (.int a1), some (.ref e2), some (.int 0), none, none, none, none]) dX1_tellRow_1 (Nat.le_of_ble_eq_true rfl) rfl ?_
  refine r_iload_n (y := m1_tellRow) dX1_tellRow_3 rfl rfl ?_
  refine r_if_lt (y := m1_tellRow) (tgt := 17) dX1_tellRow_4 (by decide) (fun hc1 => ?_) (fun hc1 => ?_)
  · have h := h.1 hc1
    refine r_iconst (y := m1_tellRow) (v := 0) dX1_tellRow_17 (by decide) ?_
    refine r_istore (y := m1_tellRow) (L' := [some (.ref (548 + 12 * i0)), some (.ref 13), some (.int a1), some (.ref e2), some (.int 0), some (.int 0), none, none, none]) dX1_tellRow_18 (Nat.le_of_ble_eq_true rfl) rfl ?_
    refine r_iconst (y := m1_tellRow) (v := 0) dX1_tellRow_20 (by decide) ?_
    refine r_istore (y := m1_tellRow) (L' := [some (.ref (548 + 12 * i0)), some (.ref 13), some (.int a1), some (.ref e2), some (.int 0), some (.int 0), some (.int 0), none, none]) dX1_tellRow_21 (Nat.le_of_ble_eq_true rfl) rfl ?_
    exact h
  · have h := h.2 hc1
    refine r_aload_n (y := m1_tellRow) dX1_tellRow_7 rfl rfl ?_
    refine g_X1_30 (y := m1_tellRow) (i := i0) rfl dX1_tellRow_8 hm hi0 ?_
    refine r_iconst (y := m1_tellRow) (v := 0) dX1_tellRow_11 (by decide) ?_
    refine r_iload_n (y := m1_tellRow) dX1_tellRow_12 rfl rfl ?_
    obtain ⟨hb2, h⟩ := h
    refine r_iast (y := m1_tellRow) (n := 42) dX1_tellRow_13 (sf_fo (k := 11) hm hi0 (by decide)) hb2 ?_
    refine r_iconst (y := m1_tellRow) (v := 1) dX1_tellRow_14 (by decide) ?_
    refine r_istore (y := m1_tellRow) (L' := [some (.ref (548 + 12 * i0)), some (.ref 13), some (.int a1), some (.ref e2), some (.int 1), none, none, none, none]) dX1_tellRow_15 (Nat.le_of_ble_eq_true rfl) rfl ?_
    refine r_iconst (y := m1_tellRow) (v := 0) dX1_tellRow_17 (by decide) ?_
    refine r_istore (y := m1_tellRow) (L' := [some (.ref (548 + 12 * i0)), some (.ref 13), some (.int a1), some (.ref e2), some (.int 1), some (.int 0), none, none, none]) dX1_tellRow_18 (Nat.le_of_ble_eq_true rfl) rfl ?_
    refine r_iconst (y := m1_tellRow) (v := 0) dX1_tellRow_20 (by decide) ?_
    refine r_istore (y := m1_tellRow) (L' := [some (.ref (548 + 12 * i0)), some (.ref 13), some (.int a1), some (.ref e2), some (.int 1), some (.int 0), some (.int 0), none, none]) dX1_tellRow_21 (Nat.le_of_ble_eq_true rfl) rfl ?_
    exact h
set_option maxHeartbeats 4000000 in
set_option maxRecDepth 100000 in
theorem w1_tellRow_23 {m : Mm} {K : Option Value ⊕ String → Mm → Prop} (hm : St m) {jj0 : Nat} {v2 : Int32} {ee3 nn3 : Nat} {v4 : Int32} {v5 : Int32} {v6 : Int32} (hjj0 : jj0 < 10) (hee3 : mS m ee3 = (13, nn3)) (h : ((40 ≤ v6 → K (.inl none) m) ∧ (¬ 40 ≤ v6 → ((¬ v4 = 0 → vp_in (v4 + (-1)) 42 ∧ C m10_find [(.ref 13), (.int (mI m (548 + 12 * jj0 + 11) (Int32.toNatClampNeg (v4 + (-1)))))] m (fun o m4 => ∃ x6 : Int32, o = .inl (some (.int x6)) ∧ St m4 ∧ vp_in x6 3500 ∧ ((¬ (mI m4 14 (Int32.toNatClampNeg x6)) = 7 → vp_in x6 3500 ∧ mS m4 ee3 = (13, nn3) ∧ vp_in v6 nn3 ∧ C m1_lookAhead [(.ref (548 + 12 * jj0)), (.ref 13), (.int x6), (.int (v4 + (-1)))] (mSetI m4 ee3 (Int32.toNatClampNeg v6) (mI m4 15 (Int32.toNatClampNeg x6))) (fun o m12 => ∃ x14 : Int32, o = .inl (some (.int x14)) ∧ St m12 ∧ V m1_tellRow 23 [some (.ref (548 + 12 * jj0)), some (.ref 13), some (.int v2), some (.ref ee3), some (.int x14), some (.int v5), some (.int (v6 + 1)), some (.int x6), none] [] m12 K)) ∧ ((mI m4 14 (Int32.toNatClampNeg x6)) = 7 → C m1_numberOfOpen [(.ref (548 + 12 * jj0)), (.int x6), (.int v5)] m4 (fun o m15 => ∃ x17 : Int32, o = .inl (some (.int x17)) ∧ St m15 ∧ ((¬ x17 = v5 → mS m15 ee3 = (13, nn3) ∧ vp_in v6 nn3 ∧ V m1_tellRow 23 [some (.ref (548 + 12 * jj0)), some (.ref 13), some (.int v2), some (.ref ee3), some (.int (v4 + (-1))), some (.int v5), some (.int (v6 + 1)), some (.int x6), some (.int x17)] [] (mSetI m15 ee3 (Int32.toNatClampNeg v6) (10 + x17)) K) ∧ (x17 = v5 → mS m15 ee3 = (13, nn3) ∧ vp_in v6 nn3 ∧ V m1_tellRow 23 [some (.ref (548 + 12 * jj0)), some (.ref 13), some (.int v2), some (.ref ee3), some (.int (v4 + (-1))), some (.int (x17 + 1)), some (.int (v6 + 1)), some (.int x6), some (.int x17)] [] (mSetI m15 ee3 (Int32.toNatClampNeg v6) (10 + x17)) K))))))) ∧ (v4 = 0 → vp_in v6 nn3 ∧ V m1_tellRow 23 [some (.ref (548 + 12 * jj0)), some (.ref 13), some (.int v2), some (.ref ee3), some (.int v4), some (.int v5), some (.int (v6 + 1)), none, none] [] (mSetI m ee3 (Int32.toNatClampNeg v6) (-1)) K))))) : V m1_tellRow 23 [some (.ref (548 + 12 * jj0)), some (.ref 13), some (.int v2), some (.ref ee3), some (.int v4), some (.int v5), some (.int v6), none, none] [] m K := by
  refine r_iload (y := m1_tellRow) dX1_tellRow_23 rfl ?_
  refine r_bipush (y := m1_tellRow) (v := 40) dX1_tellRow_25 (by decide) ?_
  refine r_icmp_ge (y := m1_tellRow) (tgt := 139) dX1_tellRow_27 (by decide) (fun hc1 => ?_) (fun hc1 => ?_)
  · have h := h.1 hc1
    exact r_ret (y := m1_tellRow) dX1_tellRow_139 rfl h
  · have h := h.2 hc1
    refine r_iload (y := m1_tellRow) dX1_tellRow_30 rfl ?_
    refine r_if_ne (y := m1_tellRow) (tgt := 43) dX1_tellRow_32 (by decide) (fun hc2 => ?_) (fun hc2 => ?_)
    · have h := h.1 hc2
      refine r_iinc (y := m1_tellRow) (v := (v4 + (-1))) (L' := [some (.ref (548 + 12 * jj0)), some (.ref 13), some (.int v2), some (.ref ee3), some (.int (v4 + (-1))), some (.int v5), some (.int v6), none, none]) dX1_tellRow_43 rfl (by rfl) rfl ?_
      refine r_aload_n (y := m1_tellRow) dX1_tellRow_46 rfl rfl ?_
      refine r_aload_n (y := m1_tellRow) dX1_tellRow_47 rfl rfl ?_
      refine g_X1_30 (y := m1_tellRow) (i := jj0) rfl dX1_tellRow_48 hm hjj0 ?_
      refine r_iload (y := m1_tellRow) dX1_tellRow_51 rfl ?_
      obtain ⟨hb3, h⟩ := h
      refine r_iald (y := m1_tellRow) (n := 42) dX1_tellRow_53 (sf_fo (k := 11) hm hjj0 (by decide)) hb3 ?_
      refine r_callVN (y := m1_tellRow) (As := [(.int (mI m (548 + 12 * jj0 + 11) (Int32.toNatClampNeg (v4 + (-1)))))]) (b := 13) (ci := 10) dX1_tellRow_54 rfl k10_find lm_X1_63 rfl ⟨by decide, by decide⟩ (so_13 hm) (by decide) rfl (Nat.le_of_ble_eq_true rfl) (C.mono h ?_)
      rintro _ m4 ⟨x6, rfl, hm5, h⟩
      refine ⟨_, rfl, ?_⟩
      refine r_istore (y := m1_tellRow) (L' := [some (.ref (548 + 12 * jj0)), some (.ref 13), some (.int v2), some (.ref ee3), some (.int (v4 + (-1))), some (.int v5), some (.int v6), some (.int x6), none]) dX1_tellRow_57 (Nat.le_of_ble_eq_true rfl) rfl ?_
      refine r_aload_n (y := m1_tellRow) dX1_tellRow_59 rfl rfl ?_
      refine g_X1_69 (y := m1_tellRow) rfl dX1_tellRow_60 hm5 ?_
      refine r_iload (y := m1_tellRow) dX1_tellRow_63 rfl ?_
      obtain ⟨hb7, h⟩ := h
      refine r_iald (y := m1_tellRow) (n := 3500) dX1_tellRow_65 (sa_14 hm5) hb7 ?_
      refine r_bipush (y := m1_tellRow) (v := 7) dX1_tellRow_66 (by decide) ?_
      refine r_icmp_ne (y := m1_tellRow) (tgt := 111) dX1_tellRow_68 (by decide) (fun hc8 => ?_) (fun hc8 => ?_)
      · have h := h.1 hc8
        refine r_aload_n (y := m1_tellRow) dX1_tellRow_111 rfl rfl ?_
        refine r_iload (y := m1_tellRow) dX1_tellRow_112 rfl ?_
        refine r_aload_n (y := m1_tellRow) dX1_tellRow_114 rfl rfl ?_
        refine g_X1_76 (y := m1_tellRow) rfl dX1_tellRow_115 hm5 ?_
        refine r_iload (y := m1_tellRow) dX1_tellRow_118 rfl ?_
        obtain ⟨hb9, h⟩ := h
        refine r_iald (y := m1_tellRow) (n := 3500) dX1_tellRow_120 (sa_15 hm5) hb9 ?_
        obtain ⟨hx10, h⟩ := h
        obtain ⟨hb11, h⟩ := h
        refine r_iast (y := m1_tellRow) (n := nn3) dX1_tellRow_121 hx10 hb11 ?_
        refine r_aload_n (y := m1_tellRow) dX1_tellRow_122 rfl rfl ?_
        refine r_aload_n (y := m1_tellRow) dX1_tellRow_123 rfl rfl ?_
        refine r_iload (y := m1_tellRow) dX1_tellRow_124 rfl ?_
        refine r_iload (y := m1_tellRow) dX1_tellRow_126 rfl ?_
        refine r_callV (y := m1_tellRow) (As := [(.ref 13), (.int x6), (.int (v4 + (-1)))]) (b := (548 + 12 * jj0)) (ci := 1) dX1_tellRow_128 rfl k1_lookAhead lm_X1_79 rfl ⟨by decide, by decide⟩ (congrArg Prod.fst (sf_fo (k := 0) (St.i hm5) hjj0 (by decide))) (by decide) rfl (Nat.le_of_ble_eq_true rfl) (C.mono h ?_)
        rintro _ m12 ⟨x14, rfl, hm13, h⟩
        refine ⟨_, rfl, ?_⟩
        refine r_istore (y := m1_tellRow) (L' := [some (.ref (548 + 12 * jj0)), some (.ref 13), some (.int v2), some (.ref ee3), some (.int x14), some (.int v5), some (.int v6), some (.int x6), none]) dX1_tellRow_131 (Nat.le_of_ble_eq_true rfl) rfl ?_
        refine r_iinc (y := m1_tellRow) (v := (v6 + 1)) (L' := [some (.ref (548 + 12 * jj0)), some (.ref 13), some (.int v2), some (.ref ee3), some (.int x14), some (.int v5), some (.int (v6 + 1)), some (.int x6), none]) dX1_tellRow_133 rfl (by rfl) rfl ?_
        refine r_goto (y := m1_tellRow) (tgt := 23) dX1_tellRow_136 (by decide) ?_
        exact h
      · have h := h.2 hc8
        refine r_aload_n (y := m1_tellRow) dX1_tellRow_71 rfl rfl ?_
        refine r_iload (y := m1_tellRow) dX1_tellRow_72 rfl ?_
        refine r_iload (y := m1_tellRow) dX1_tellRow_74 rfl ?_
        refine r_callV (y := m1_tellRow) (As := [(.int x6), (.int v5)]) (b := (548 + 12 * jj0)) (ci := 1) dX1_tellRow_76 rfl k1_numberOfOpen lm_X1_72 rfl ⟨by decide, by decide⟩ (congrArg Prod.fst (sf_fo (k := 0) hm5 hjj0 (by decide))) (by decide) rfl (Nat.le_of_ble_eq_true rfl) (C.mono h ?_)
        rintro _ m15 ⟨x17, rfl, hm16, h⟩
        refine ⟨_, rfl, ?_⟩
        refine r_istore (y := m1_tellRow) (L' := [some (.ref (548 + 12 * jj0)), some (.ref 13), some (.int v2), some (.ref ee3), some (.int (v4 + (-1))), some (.int v5), some (.int v6), some (.int x6), some (.int x17)]) dX1_tellRow_79 (Nat.le_of_ble_eq_true rfl) rfl ?_
        refine r_iload (y := m1_tellRow) dX1_tellRow_81 rfl ?_
        refine r_iload (y := m1_tellRow) dX1_tellRow_83 rfl ?_
        refine r_icmp_ne (y := m1_tellRow) (tgt := 95) dX1_tellRow_85 (by decide) (fun hc18 => ?_) (fun hc18 => ?_)
        · have h := h.1 hc18
          refine r_iload (y := m1_tellRow) dX1_tellRow_95 rfl ?_
          refine r_istore (y := m1_tellRow) (L' := [some (.ref (548 + 12 * jj0)), some (.ref 13), some (.int v2), some (.ref ee3), some (.int (v4 + (-1))), some (.int v5), some (.int v6), some (.int x6), some (.int x17)]) dX1_tellRow_97 (Nat.le_of_ble_eq_true rfl) rfl ?_
          refine r_aload_n (y := m1_tellRow) dX1_tellRow_99 rfl rfl ?_
          refine r_iload (y := m1_tellRow) dX1_tellRow_100 rfl ?_
          refine r_bipush (y := m1_tellRow) (v := 10) dX1_tellRow_102 (by decide) ?_
          refine r_iload (y := m1_tellRow) dX1_tellRow_104 rfl ?_
          refine r_iadd (y := m1_tellRow) dX1_tellRow_106 ?_
          obtain ⟨hx19, h⟩ := h
          obtain ⟨hb20, h⟩ := h
          refine r_iast (y := m1_tellRow) (n := nn3) dX1_tellRow_107 hx19 hb20 ?_
          refine r_goto (y := m1_tellRow) (tgt := 133) dX1_tellRow_108 (by decide) ?_
          refine r_iinc (y := m1_tellRow) (v := (v6 + 1)) (L' := [some (.ref (548 + 12 * jj0)), some (.ref 13), some (.int v2), some (.ref ee3), some (.int (v4 + (-1))), some (.int v5), some (.int (v6 + 1)), some (.int x6), some (.int x17)]) dX1_tellRow_133 rfl (by rfl) rfl ?_
          refine r_goto (y := m1_tellRow) (tgt := 23) dX1_tellRow_136 (by decide) ?_
          exact h
        · have h := h.2 hc18
          refine r_iload (y := m1_tellRow) dX1_tellRow_88 rfl ?_
          refine r_iconst (y := m1_tellRow) (v := 1) dX1_tellRow_90 (by decide) ?_
          refine r_iadd (y := m1_tellRow) dX1_tellRow_91 ?_
          refine r_goto (y := m1_tellRow) (tgt := 97) dX1_tellRow_92 (by decide) ?_
          refine r_istore (y := m1_tellRow) (L' := [some (.ref (548 + 12 * jj0)), some (.ref 13), some (.int v2), some (.ref ee3), some (.int (v4 + (-1))), some (.int (x17 + 1)), some (.int v6), some (.int x6), some (.int x17)]) dX1_tellRow_97 (Nat.le_of_ble_eq_true rfl) rfl ?_
          refine r_aload_n (y := m1_tellRow) dX1_tellRow_99 rfl rfl ?_
          refine r_iload (y := m1_tellRow) dX1_tellRow_100 rfl ?_
          refine r_bipush (y := m1_tellRow) (v := 10) dX1_tellRow_102 (by decide) ?_
          refine r_iload (y := m1_tellRow) dX1_tellRow_104 rfl ?_
          refine r_iadd (y := m1_tellRow) dX1_tellRow_106 ?_
          obtain ⟨hx21, h⟩ := h
          obtain ⟨hb22, h⟩ := h
          refine r_iast (y := m1_tellRow) (n := nn3) dX1_tellRow_107 hx21 hb22 ?_
          refine r_goto (y := m1_tellRow) (tgt := 133) dX1_tellRow_108 (by decide) ?_
          refine r_iinc (y := m1_tellRow) (v := (v6 + 1)) (L' := [some (.ref (548 + 12 * jj0)), some (.ref 13), some (.int v2), some (.ref ee3), some (.int (v4 + (-1))), some (.int (x17 + 1)), some (.int (v6 + 1)), some (.int x6), some (.int x17)]) dX1_tellRow_133 rfl (by rfl) rfl ?_
          refine r_goto (y := m1_tellRow) (tgt := 23) dX1_tellRow_136 (by decide) ?_
          exact h
    · have h := h.2 hc2
      refine r_aload_n (y := m1_tellRow) dX1_tellRow_35 rfl rfl ?_
      refine r_iload (y := m1_tellRow) dX1_tellRow_36 rfl ?_
      refine r_iconst (y := m1_tellRow) (v := (-1)) dX1_tellRow_38 (by decide) ?_
      obtain ⟨hb23, h⟩ := h
      refine r_iast (y := m1_tellRow) (n := nn3) dX1_tellRow_39 hee3 hb23 ?_
      refine r_goto (y := m1_tellRow) (tgt := 133) dX1_tellRow_40 (by decide) ?_
      refine r_iinc (y := m1_tellRow) (v := (v6 + 1)) (L' := [some (.ref (548 + 12 * jj0)), some (.ref 13), some (.int v2), some (.ref ee3), some (.int v4), some (.int v5), some (.int (v6 + 1)), none, none]) dX1_tellRow_133 rfl (by rfl) rfl ?_
      refine r_goto (y := m1_tellRow) (tgt := 23) dX1_tellRow_136 (by decide) ?_
      exact h
set_option maxHeartbeats 4000000 in
set_option maxRecDepth 100000 in
theorem w1_numberOfOpen {m : Mm} {K : Option Value ⊕ String → Mm → Prop} (hm : St m) {i0 : Nat} {a0 : Int32} {a1 : Int32} (hi0 : i0 < 10) (h : V m1_numberOfOpen 2 [some (.ref (548 + 12 * i0)), some (.int a0), some (.int a1), some (.int 0)] [] m K) : V m1_numberOfOpen 0 [some (.ref (548 + 12 * i0)), some (.int a0), some (.int a1), none] [] m K := by
  refine r_iconst (y := m1_numberOfOpen) (v := 0) dX1_numberOfOpen_0 (by decide) ?_
  refine r_istore_n (y := m1_numberOfOpen) (L' := [some (.ref (548 + 12 * i0)), some (.int a0), some (.int a1), some (.int 0)]) dX1_numberOfOpen_1 rfl (Nat.le_of_ble_eq_true rfl) rfl ?_
  exact h
set_option maxHeartbeats 4000000 in
set_option maxRecDepth 100000 in
theorem w1_numberOfOpen_2 {m : Mm} {K : Option Value ⊕ String → Mm → Prop} (hm : St m) {jj0 : Nat} {v1 : Int32} {v2 : Int32} {v3 : Int32} (hjj0 : jj0 < 10) (h : ((v2 ≤ v3 → vp_in v2 40 ∧ K (.inl (some (.int v2))) (mSetI m (548 + 12 * jj0 + 10) (Int32.toNatClampNeg v2) v1)) ∧ (¬ v2 ≤ v3 → vp_in v3 40 ∧ ((¬ (mI m (548 + 12 * jj0 + 10) (Int32.toNatClampNeg v3)) = v1 → V m1_numberOfOpen 2 [some (.ref (548 + 12 * jj0)), some (.int v1), some (.int v2), some (.int (v3 + 1))] [] m K) ∧ ((mI m (548 + 12 * jj0 + 10) (Int32.toNatClampNeg v3)) = v1 → K (.inl (some (.int v3))) m))))) : V m1_numberOfOpen 2 [some (.ref (548 + 12 * jj0)), some (.int v1), some (.int v2), some (.int v3)] [] m K := by
  refine r_iload_n (y := m1_numberOfOpen) dX1_numberOfOpen_2 rfl rfl ?_
  refine r_iload_n (y := m1_numberOfOpen) dX1_numberOfOpen_3 rfl rfl ?_
  refine r_icmp_ge (y := m1_numberOfOpen) (tgt := 25) dX1_numberOfOpen_4 (by decide) (fun hc1 => ?_) (fun hc1 => ?_)
  · have h := h.1 hc1
    refine r_aload_n (y := m1_numberOfOpen) dX1_numberOfOpen_25 rfl rfl ?_
    refine g_X1_27 (y := m1_numberOfOpen) (i := jj0) rfl dX1_numberOfOpen_26 hm hjj0 ?_
    refine r_iload_n (y := m1_numberOfOpen) dX1_numberOfOpen_29 rfl rfl ?_
    refine r_iload_n (y := m1_numberOfOpen) dX1_numberOfOpen_30 rfl rfl ?_
    obtain ⟨hb2, h⟩ := h
    refine r_iast (y := m1_numberOfOpen) (n := 40) dX1_numberOfOpen_31 (sf_fo (k := 10) hm hjj0 (by decide)) hb2 ?_
    refine r_iload_n (y := m1_numberOfOpen) dX1_numberOfOpen_32 rfl rfl ?_
    exact r_iret (y := m1_numberOfOpen) dX1_numberOfOpen_33 rfl rfl h
  · have h := h.2 hc1
    refine r_aload_n (y := m1_numberOfOpen) dX1_numberOfOpen_7 rfl rfl ?_
    refine g_X1_27 (y := m1_numberOfOpen) (i := jj0) rfl dX1_numberOfOpen_8 hm hjj0 ?_
    refine r_iload_n (y := m1_numberOfOpen) dX1_numberOfOpen_11 rfl rfl ?_
    obtain ⟨hb3, h⟩ := h
    refine r_iald (y := m1_numberOfOpen) (n := 40) dX1_numberOfOpen_12 (sf_fo (k := 10) hm hjj0 (by decide)) hb3 ?_
    refine r_iload_n (y := m1_numberOfOpen) dX1_numberOfOpen_13 rfl rfl ?_
    refine r_icmp_ne (y := m1_numberOfOpen) (tgt := 19) dX1_numberOfOpen_14 (by decide) (fun hc4 => ?_) (fun hc4 => ?_)
    · have h := h.1 hc4
      refine r_iinc (y := m1_numberOfOpen) (v := (v3 + 1)) (L' := [some (.ref (548 + 12 * jj0)), some (.int v1), some (.int v2), some (.int (v3 + 1))]) dX1_numberOfOpen_19 rfl (by rfl) rfl ?_
      refine r_goto (y := m1_numberOfOpen) (tgt := 2) dX1_numberOfOpen_22 (by decide) ?_
      exact h
    · have h := h.2 hc4
      refine r_iload_n (y := m1_numberOfOpen) dX1_numberOfOpen_17 rfl rfl ?_
      exact r_iret (y := m1_numberOfOpen) dX1_numberOfOpen_18 rfl rfl h
set_option maxHeartbeats 4000000 in
set_option maxRecDepth 100000 in
theorem w1_lookAhead {m : Mm} {K : Option Value ⊕ String → Mm → Prop} (hm : St m) {i0 : Nat} {a1 : Int32} {a2 : Int32} (hi0 : i0 < 10) (h : vp_in a1 3500 ∧ ((¬ (mI m 14 (Int32.toNatClampNeg a1)) = 1 → (((0 : Int32) ≤ 1 → (((0 : Int32) ≤ 0 → K (.inl (some (.int a2))) m) ∧ (¬ (0 : Int32) ≤ 0 → vp_in a1 3500 ∧ vp_in a2 42 ∧ K (.inl (some (.int (a2 + 1)))) (mSetI m (548 + 12 * i0 + 11) (Int32.toNatClampNeg a2) (mI m 16 (Int32.toNatClampNeg a1)))))) ∧ (¬ (0 : Int32) ≤ 1 → vp_in a1 3500 ∧ vp_in a2 42 ∧ (((0 : Int32) ≤ 0 → K (.inl (some (.int (a2 + 1)))) (mSetI m (548 + 12 * i0 + 11) (Int32.toNatClampNeg a2) (mI m 17 (Int32.toNatClampNeg a1)))) ∧ (¬ (0 : Int32) ≤ 0 → vp_in a1 3500 ∧ vp_in (a2 + 1) 42 ∧ K (.inl (some (.int ((a2 + 1) + 1)))) (mSetI (mSetI m (548 + 12 * i0 + 11) (Int32.toNatClampNeg a2) (mI m 17 (Int32.toNatClampNeg a1))) (548 + 12 * i0 + 11) (Int32.toNatClampNeg (a2 + 1)) (mI (mSetI m (548 + 12 * i0 + 11) (Int32.toNatClampNeg a2) (mI m 17 (Int32.toNatClampNeg a1))) 16 (Int32.toNatClampNeg a1)))))))) ∧ ((mI m 14 (Int32.toNatClampNeg a1)) = 1 → vp_in a1 3500 ∧ C m11_partsOfKind [(.int (mI m 15 (Int32.toNatClampNeg a1)))] m (fun o m13 => ∃ x15 : Int32, o = .inl (some (.int x15)) ∧ St m13 ∧ ((x15 ≤ 1 → ((x15 ≤ 0 → K (.inl (some (.int a2))) m13) ∧ (¬ x15 ≤ 0 → vp_in a1 3500 ∧ vp_in a2 42 ∧ K (.inl (some (.int (a2 + 1)))) (mSetI m13 (548 + 12 * i0 + 11) (Int32.toNatClampNeg a2) (mI m13 16 (Int32.toNatClampNeg a1)))))) ∧ (¬ x15 ≤ 1 → vp_in a1 3500 ∧ vp_in a2 42 ∧ ((x15 ≤ 0 → K (.inl (some (.int (a2 + 1)))) (mSetI m13 (548 + 12 * i0 + 11) (Int32.toNatClampNeg a2) (mI m13 17 (Int32.toNatClampNeg a1)))) ∧ (¬ x15 ≤ 0 → vp_in a1 3500 ∧ vp_in (a2 + 1) 42 ∧ K (.inl (some (.int ((a2 + 1) + 1)))) (mSetI (mSetI m13 (548 + 12 * i0 + 11) (Int32.toNatClampNeg a2) (mI m13 17 (Int32.toNatClampNeg a1))) (548 + 12 * i0 + 11) (Int32.toNatClampNeg (a2 + 1)) (mI (mSetI m13 (548 + 12 * i0 + 11) (Int32.toNatClampNeg a2) (mI m13 17 (Int32.toNatClampNeg a1))) 16 (Int32.toNatClampNeg a1))))))))))) : V m1_lookAhead 0 [some (.ref (548 + 12 * i0)), some (.ref 13), some (.int a1), some (.int a2), none, none] [] m K := by
  refine r_iload_n (y := m1_lookAhead) dX1_lookAhead_0 rfl rfl ?_
  refine r_istore (y := m1_lookAhead) (L' := [some (.ref (548 + 12 * i0)), some (.ref 13), some (.int a1), some (.int a2), some (.int a2), none]) dX1_lookAhead_1 (Nat.le_of_ble_eq_true rfl) rfl ?_
  refine r_aload_n (y := m1_lookAhead) dX1_lookAhead_3 rfl rfl ?_
  refine g_X1_69 (y := m1_lookAhead) rfl dX1_lookAhead_4 hm ?_
  refine r_iload_n (y := m1_lookAhead) dX1_lookAhead_7 rfl rfl ?_
  obtain ⟨hb1, h⟩ := h
  refine r_iald (y := m1_lookAhead) (n := 3500) dX1_lookAhead_8 (sa_14 hm) hb1 ?_
  refine r_iconst (y := m1_lookAhead) (v := 1) dX1_lookAhead_9 (by decide) ?_
  refine r_icmp_ne (y := m1_lookAhead) (tgt := 25) dX1_lookAhead_10 (by decide) (fun hc2 => ?_) (fun hc2 => ?_)
  · have h := h.1 hc2
    refine r_iconst (y := m1_lookAhead) (v := 0) dX1_lookAhead_25 (by decide) ?_
    refine r_istore (y := m1_lookAhead) (L' := [some (.ref (548 + 12 * i0)), some (.ref 13), some (.int a1), some (.int a2), some (.int a2), some (.int 0)]) dX1_lookAhead_26 (Nat.le_of_ble_eq_true rfl) rfl ?_
    refine r_iload (y := m1_lookAhead) dX1_lookAhead_28 rfl ?_
    refine r_iconst (y := m1_lookAhead) (v := 1) dX1_lookAhead_30 (by decide) ?_
    refine r_icmp_le (y := m1_lookAhead) (tgt := 50) dX1_lookAhead_31 (by decide) (fun hc3 => ?_) (fun hc3 => ?_)
    · have h := h.1 hc3
      refine r_iload (y := m1_lookAhead) dX1_lookAhead_50 rfl ?_
      refine r_if_le (y := m1_lookAhead) (tgt := 71) dX1_lookAhead_52 (by decide) (fun hc4 => ?_) (fun hc4 => ?_)
      · have h := h.1 hc4
        refine r_iload (y := m1_lookAhead) dX1_lookAhead_71 rfl ?_
        exact r_iret (y := m1_lookAhead) dX1_lookAhead_73 rfl rfl h
      · have h := h.2 hc4
        refine r_aload_n (y := m1_lookAhead) dX1_lookAhead_55 rfl rfl ?_
        refine g_X1_30 (y := m1_lookAhead) (i := i0) rfl dX1_lookAhead_56 hm hi0 ?_
        refine r_iload (y := m1_lookAhead) dX1_lookAhead_59 rfl ?_
        refine r_aload_n (y := m1_lookAhead) dX1_lookAhead_61 rfl rfl ?_
        refine g_X1_89 (y := m1_lookAhead) rfl dX1_lookAhead_62 hm ?_
        refine r_iload_n (y := m1_lookAhead) dX1_lookAhead_65 rfl rfl ?_
        obtain ⟨hb5, h⟩ := h
        refine r_iald (y := m1_lookAhead) (n := 3500) dX1_lookAhead_66 (sa_16 hm) hb5 ?_
        obtain ⟨hb6, h⟩ := h
        refine r_iast (y := m1_lookAhead) (n := 42) dX1_lookAhead_67 (sf_fo (k := 11) hm hi0 (by decide)) hb6 ?_
        refine r_iinc (y := m1_lookAhead) (v := (a2 + 1)) (L' := [some (.ref (548 + 12 * i0)), some (.ref 13), some (.int a1), some (.int a2), some (.int (a2 + 1)), some (.int 0)]) dX1_lookAhead_68 rfl (by rfl) rfl ?_
        refine r_iload (y := m1_lookAhead) dX1_lookAhead_71 rfl ?_
        exact r_iret (y := m1_lookAhead) dX1_lookAhead_73 rfl rfl h
    · have h := h.2 hc3
      refine r_aload_n (y := m1_lookAhead) dX1_lookAhead_34 rfl rfl ?_
      refine g_X1_30 (y := m1_lookAhead) (i := i0) rfl dX1_lookAhead_35 hm hi0 ?_
      refine r_iload (y := m1_lookAhead) dX1_lookAhead_38 rfl ?_
      refine r_aload_n (y := m1_lookAhead) dX1_lookAhead_40 rfl rfl ?_
      refine g_X1_86 (y := m1_lookAhead) rfl dX1_lookAhead_41 hm ?_
      refine r_iload_n (y := m1_lookAhead) dX1_lookAhead_44 rfl rfl ?_
      obtain ⟨hb7, h⟩ := h
      refine r_iald (y := m1_lookAhead) (n := 3500) dX1_lookAhead_45 (sa_17 hm) hb7 ?_
      obtain ⟨hb8, h⟩ := h
      refine r_iast (y := m1_lookAhead) (n := 42) dX1_lookAhead_46 (sf_fo (k := 11) hm hi0 (by decide)) hb8 ?_
      refine r_iinc (y := m1_lookAhead) (v := (a2 + 1)) (L' := [some (.ref (548 + 12 * i0)), some (.ref 13), some (.int a1), some (.int a2), some (.int (a2 + 1)), some (.int 0)]) dX1_lookAhead_47 rfl (by rfl) rfl ?_
      refine r_iload (y := m1_lookAhead) dX1_lookAhead_50 rfl ?_
      refine r_if_le (y := m1_lookAhead) (tgt := 71) dX1_lookAhead_52 (by decide) (fun hc9 => ?_) (fun hc9 => ?_)
      · have h := h.1 hc9
        refine r_iload (y := m1_lookAhead) dX1_lookAhead_71 rfl ?_
        exact r_iret (y := m1_lookAhead) dX1_lookAhead_73 rfl rfl h
      · have h := h.2 hc9
        refine r_aload_n (y := m1_lookAhead) dX1_lookAhead_55 rfl rfl ?_
        refine g_X1_30 (y := m1_lookAhead) (i := i0) rfl dX1_lookAhead_56 (St.i hm) hi0 ?_
        refine r_iload (y := m1_lookAhead) dX1_lookAhead_59 rfl ?_
        refine r_aload_n (y := m1_lookAhead) dX1_lookAhead_61 rfl rfl ?_
        refine g_X1_89 (y := m1_lookAhead) rfl dX1_lookAhead_62 (St.i hm) ?_
        refine r_iload_n (y := m1_lookAhead) dX1_lookAhead_65 rfl rfl ?_
        obtain ⟨hb10, h⟩ := h
        refine r_iald (y := m1_lookAhead) (n := 3500) dX1_lookAhead_66 (sa_16 (St.i hm)) hb10 ?_
        obtain ⟨hb11, h⟩ := h
        refine r_iast (y := m1_lookAhead) (n := 42) dX1_lookAhead_67 (sf_fo (k := 11) (St.i hm) hi0 (by decide)) hb11 ?_
        refine r_iinc (y := m1_lookAhead) (v := ((a2 + 1) + 1)) (L' := [some (.ref (548 + 12 * i0)), some (.ref 13), some (.int a1), some (.int a2), some (.int ((a2 + 1) + 1)), some (.int 0)]) dX1_lookAhead_68 rfl (by rfl) rfl ?_
        refine r_iload (y := m1_lookAhead) dX1_lookAhead_71 rfl ?_
        exact r_iret (y := m1_lookAhead) dX1_lookAhead_73 rfl rfl h
  · have h := h.2 hc2
    refine r_aload_n (y := m1_lookAhead) dX1_lookAhead_13 rfl rfl ?_
    refine g_X1_76 (y := m1_lookAhead) rfl dX1_lookAhead_14 hm ?_
    refine r_iload_n (y := m1_lookAhead) dX1_lookAhead_17 rfl rfl ?_
    obtain ⟨hb12, h⟩ := h
    refine r_iald (y := m1_lookAhead) (n := 3500) dX1_lookAhead_18 (sa_15 hm) hb12 ?_
    refine r_callSN (y := m1_lookAhead) (As := [(.int (mI m 15 (Int32.toNatClampNeg a1)))]) dX1_lookAhead_19 rfl k11_partsOfKind lm_X1_83 rfl ⟨by decide, by decide⟩ (Nat.le_of_ble_eq_true rfl) (C.mono h ?_)
    rintro _ m13 ⟨x15, rfl, hm14, h⟩
    refine ⟨_, rfl, ?_⟩
    refine r_goto (y := m1_lookAhead) (tgt := 26) dX1_lookAhead_22 (by decide) ?_
    refine r_istore (y := m1_lookAhead) (L' := [some (.ref (548 + 12 * i0)), some (.ref 13), some (.int a1), some (.int a2), some (.int a2), some (.int x15)]) dX1_lookAhead_26 (Nat.le_of_ble_eq_true rfl) rfl ?_
    refine r_iload (y := m1_lookAhead) dX1_lookAhead_28 rfl ?_
    refine r_iconst (y := m1_lookAhead) (v := 1) dX1_lookAhead_30 (by decide) ?_
    refine r_icmp_le (y := m1_lookAhead) (tgt := 50) dX1_lookAhead_31 (by decide) (fun hc16 => ?_) (fun hc16 => ?_)
    · have h := h.1 hc16
      refine r_iload (y := m1_lookAhead) dX1_lookAhead_50 rfl ?_
      refine r_if_le (y := m1_lookAhead) (tgt := 71) dX1_lookAhead_52 (by decide) (fun hc17 => ?_) (fun hc17 => ?_)
      · have h := h.1 hc17
        refine r_iload (y := m1_lookAhead) dX1_lookAhead_71 rfl ?_
        exact r_iret (y := m1_lookAhead) dX1_lookAhead_73 rfl rfl h
      · have h := h.2 hc17
        refine r_aload_n (y := m1_lookAhead) dX1_lookAhead_55 rfl rfl ?_
        refine g_X1_30 (y := m1_lookAhead) (i := i0) rfl dX1_lookAhead_56 hm14 hi0 ?_
        refine r_iload (y := m1_lookAhead) dX1_lookAhead_59 rfl ?_
        refine r_aload_n (y := m1_lookAhead) dX1_lookAhead_61 rfl rfl ?_
        refine g_X1_89 (y := m1_lookAhead) rfl dX1_lookAhead_62 hm14 ?_
        refine r_iload_n (y := m1_lookAhead) dX1_lookAhead_65 rfl rfl ?_
        obtain ⟨hb18, h⟩ := h
        refine r_iald (y := m1_lookAhead) (n := 3500) dX1_lookAhead_66 (sa_16 hm14) hb18 ?_
        obtain ⟨hb19, h⟩ := h
        refine r_iast (y := m1_lookAhead) (n := 42) dX1_lookAhead_67 (sf_fo (k := 11) hm14 hi0 (by decide)) hb19 ?_
        refine r_iinc (y := m1_lookAhead) (v := (a2 + 1)) (L' := [some (.ref (548 + 12 * i0)), some (.ref 13), some (.int a1), some (.int a2), some (.int (a2 + 1)), some (.int x15)]) dX1_lookAhead_68 rfl (by rfl) rfl ?_
        refine r_iload (y := m1_lookAhead) dX1_lookAhead_71 rfl ?_
        exact r_iret (y := m1_lookAhead) dX1_lookAhead_73 rfl rfl h
    · have h := h.2 hc16
      refine r_aload_n (y := m1_lookAhead) dX1_lookAhead_34 rfl rfl ?_
      refine g_X1_30 (y := m1_lookAhead) (i := i0) rfl dX1_lookAhead_35 hm14 hi0 ?_
      refine r_iload (y := m1_lookAhead) dX1_lookAhead_38 rfl ?_
      refine r_aload_n (y := m1_lookAhead) dX1_lookAhead_40 rfl rfl ?_
      refine g_X1_86 (y := m1_lookAhead) rfl dX1_lookAhead_41 hm14 ?_
      refine r_iload_n (y := m1_lookAhead) dX1_lookAhead_44 rfl rfl ?_
      obtain ⟨hb20, h⟩ := h
      refine r_iald (y := m1_lookAhead) (n := 3500) dX1_lookAhead_45 (sa_17 hm14) hb20 ?_
      obtain ⟨hb21, h⟩ := h
      refine r_iast (y := m1_lookAhead) (n := 42) dX1_lookAhead_46 (sf_fo (k := 11) hm14 hi0 (by decide)) hb21 ?_
      refine r_iinc (y := m1_lookAhead) (v := (a2 + 1)) (L' := [some (.ref (548 + 12 * i0)), some (.ref 13), some (.int a1), some (.int a2), some (.int (a2 + 1)), some (.int x15)]) dX1_lookAhead_47 rfl (by rfl) rfl ?_
      refine r_iload (y := m1_lookAhead) dX1_lookAhead_50 rfl ?_
      refine r_if_le (y := m1_lookAhead) (tgt := 71) dX1_lookAhead_52 (by decide) (fun hc22 => ?_) (fun hc22 => ?_)
      · have h := h.1 hc22
        refine r_iload (y := m1_lookAhead) dX1_lookAhead_71 rfl ?_
        exact r_iret (y := m1_lookAhead) dX1_lookAhead_73 rfl rfl h
      · have h := h.2 hc22
        refine r_aload_n (y := m1_lookAhead) dX1_lookAhead_55 rfl rfl ?_
        refine g_X1_30 (y := m1_lookAhead) (i := i0) rfl dX1_lookAhead_56 (St.i hm14) hi0 ?_
        refine r_iload (y := m1_lookAhead) dX1_lookAhead_59 rfl ?_
        refine r_aload_n (y := m1_lookAhead) dX1_lookAhead_61 rfl rfl ?_
        refine g_X1_89 (y := m1_lookAhead) rfl dX1_lookAhead_62 (St.i hm14) ?_
        refine r_iload_n (y := m1_lookAhead) dX1_lookAhead_65 rfl rfl ?_
        obtain ⟨hb23, h⟩ := h
        refine r_iald (y := m1_lookAhead) (n := 3500) dX1_lookAhead_66 (sa_16 (St.i hm14)) hb23 ?_
        obtain ⟨hb24, h⟩ := h
        refine r_iast (y := m1_lookAhead) (n := 42) dX1_lookAhead_67 (sf_fo (k := 11) (St.i hm14) hi0 (by decide)) hb24 ?_
        refine r_iinc (y := m1_lookAhead) (v := ((a2 + 1) + 1)) (L' := [some (.ref (548 + 12 * i0)), some (.ref 13), some (.int a1), some (.int a2), some (.int ((a2 + 1) + 1)), some (.int x15)]) dX1_lookAhead_68 rfl (by rfl) rfl ?_
        refine r_iload (y := m1_lookAhead) dX1_lookAhead_71 rfl ?_
        exact r_iret (y := m1_lookAhead) dX1_lookAhead_73 rfl rfl h
