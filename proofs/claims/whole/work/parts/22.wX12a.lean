/-! written by gen/drive.py -/
set_option maxHeartbeats 4000000 in
set_option maxRecDepth 100000 in
theorem w12_thrown {m : Mm} {K : Option Value ⊕ String → Mm → Prop} (hm : St m)   (h : K (.inl (some (.int (mI m 668 12)))) m) : V m12_thrown 0 [some (.ref 668)] [] m K := by
  refine r_aload_n (y := m12_thrown) dX12_thrown_0 rfl rfl ?_
  refine g_X12_147 (y := m12_thrown) rfl dX12_thrown_1 hm ?_
  exact r_iret (y := m12_thrown) dX12_thrown_4 rfl rfl h
set_option maxHeartbeats 4000000 in
set_option maxRecDepth 100000 in
theorem w12_in {m : Mm} {K : Option Value ⊕ String → Mm → Prop} (hm : St m) {a0 : Int32} {a1 : Int32} {a2 : Int32}  (h : ((a0 < a1 → K (.inl (some (.int 0))) m) ∧ (¬ a0 < a1 → ((a2 < a0 → K (.inl (some (.int 0))) m) ∧ (¬ a2 < a0 → K (.inl (some (.int 1))) m))))) : V m12_in 0 [some (.int a0), some (.int a1), some (.int a2)] [] m K := by
  refine r_iload_n (y := m12_in) dX12_in_0 rfl rfl ?_
  refine r_iload_n (y := m12_in) dX12_in_1 rfl rfl ?_
  refine r_icmp_lt (y := m12_in) (tgt := 14) dX12_in_2 (by decide) (fun hc1 => ?_) (fun hc1 => ?_)
  · have h := h.1 hc1
    refine r_iconst (y := m12_in) (v := 0) dX12_in_14 (by decide) ?_
    exact r_iret (y := m12_in) (ty := .boolean) dX12_in_15 rfl (by decide) h
  · have h := h.2 hc1
    refine r_iload_n (y := m12_in) dX12_in_5 rfl rfl ?_
    refine r_iload_n (y := m12_in) dX12_in_6 rfl rfl ?_
    refine r_icmp_gt (y := m12_in) (tgt := 14) dX12_in_7 (by decide) (fun hc2 => ?_) (fun hc2 => ?_)
    · have h := h.1 hc2
      refine r_iconst (y := m12_in) (v := 0) dX12_in_14 (by decide) ?_
      exact r_iret (y := m12_in) (ty := .boolean) dX12_in_15 rfl (by decide) h
    · have h := h.2 hc2
      refine r_iconst (y := m12_in) (v := 1) dX12_in_10 (by decide) ?_
      refine r_goto (y := m12_in) (tgt := 15) dX12_in_11 (by decide) ?_
      exact r_iret (y := m12_in) (ty := .boolean) dX12_in_15 rfl (by decide) h
set_option maxHeartbeats 4000000 in
set_option maxRecDepth 100000 in
theorem w12_isFunction {m : Mm} {K : Option Value ⊕ String → Mm → Prop} (hm : St m) {a0 : Int32}  (h : C m12_in [(.int a0), (.int 0), (.int ((mI m 668 0) - 1))] m (fun o m1 => ∃ x3 : Int32, o = .inl (some (.int x3)) ∧ St m1 ∧ (narrow .boolean (.int x3) = .int x3 ∧ K (.inl (some (.int x3))) m1))) : V m12_isFunction 0 [some (.ref 668), some (.int a0)] [] m K := by
  refine r_iload_n (y := m12_isFunction) dX12_isFunction_0 rfl rfl ?_
  refine r_iconst (y := m12_isFunction) (v := 0) dX12_isFunction_1 (by decide) ?_
  refine r_aload_n (y := m12_isFunction) dX12_isFunction_2 rfl rfl ?_
  refine g_X12_151 (y := m12_isFunction) rfl dX12_isFunction_3 hm ?_
  refine r_iconst (y := m12_isFunction) (v := 1) dX12_isFunction_6 (by decide) ?_
  refine r_isub (y := m12_isFunction) dX12_isFunction_7 ?_
  refine r_callS (y := m12_isFunction) (As := [(.int a0), (.int 0), (.int ((mI m 668 0) - 1))]) dX12_isFunction_8 rfl k12_in lm_X12_154 rfl ⟨by decide, by decide⟩ (Nat.le_of_ble_eq_true rfl) (C.mono h ?_)
  rintro _ m1 ⟨x3, rfl, hm2, h⟩
  refine ⟨_, rfl, ?_⟩
  exact r_iret (y := m12_isFunction) (ty := .boolean) dX12_isFunction_11 rfl h.1 h.2
set_option maxHeartbeats 4000000 in
set_option maxRecDepth 100000 in
theorem w12_isNode {m : Mm} {K : Option Value ⊕ String → Mm → Prop} (hm : St m) {a0 : Int32}  (h : C m12_in [(.int a0), (.int 0), (.int ((mI m 668 3) - 1))] m (fun o m1 => ∃ x3 : Int32, o = .inl (some (.int x3)) ∧ St m1 ∧ (narrow .boolean (.int x3) = .int x3 ∧ K (.inl (some (.int x3))) m1))) : V m12_isNode 0 [some (.ref 668), some (.int a0)] [] m K := by
  refine r_iload_n (y := m12_isNode) dX12_isNode_0 rfl rfl ?_
  refine r_iconst (y := m12_isNode) (v := 0) dX12_isNode_1 (by decide) ?_
  refine r_aload_n (y := m12_isNode) dX12_isNode_2 rfl rfl ?_
  refine g_X12_158 (y := m12_isNode) rfl dX12_isNode_3 hm ?_
  refine r_iconst (y := m12_isNode) (v := 1) dX12_isNode_6 (by decide) ?_
  refine r_isub (y := m12_isNode) dX12_isNode_7 ?_
  refine r_callS (y := m12_isNode) (As := [(.int a0), (.int 0), (.int ((mI m 668 3) - 1))]) dX12_isNode_8 rfl k12_in lm_X12_154 rfl ⟨by decide, by decide⟩ (Nat.le_of_ble_eq_true rfl) (C.mono h ?_)
  rintro _ m1 ⟨x3, rfl, hm2, h⟩
  refine ⟨_, rfl, ?_⟩
  exact r_iret (y := m12_isNode) (ty := .boolean) dX12_isNode_11 rfl h.1 h.2
set_option maxHeartbeats 4000000 in
set_option maxRecDepth 100000 in
theorem w12_partsOf {m : Mm} {K : Option Value ⊕ String → Mm → Prop} (hm : St m) {a0 : Int32}  (h : ((10 ≤ a0 → ((20 ≤ a0 → ((30 ≤ a0 → ((¬ a0 = 33 → K (.inl (some (.int 2))) m) ∧ (a0 = 33 → K (.inl (some (.int 1))) m))) ∧ (¬ 30 ≤ a0 → vp_in (a0 - 20) 8 ∧ K (.inl (some (.int (mI m 669 (Int32.toNatClampNeg (a0 - 20)))))) m))) ∧ (¬ 20 ≤ a0 → K (.inl (some (.int ((a0 - 10) / 2)))) m))) ∧ (¬ 10 ≤ a0 → K (.inl (some (.int 0))) m))) : V m12_partsOf 0 [some (.ref 668), some (.int a0)] [] m K := by
  refine r_iload_n (y := m12_partsOf) dX12_partsOf_0 rfl rfl ?_
  refine r_bipush (y := m12_partsOf) (v := 10) dX12_partsOf_1 (by decide) ?_
  refine r_icmp_ge (y := m12_partsOf) (tgt := 8) dX12_partsOf_3 (by decide) (fun hc1 => ?_) (fun hc1 => ?_)
  · have h := h.1 hc1
    refine r_iload_n (y := m12_partsOf) dX12_partsOf_8 rfl rfl ?_
    refine r_bipush (y := m12_partsOf) (v := 20) dX12_partsOf_9 (by decide) ?_
    refine r_icmp_ge (y := m12_partsOf) (tgt := 21) dX12_partsOf_11 (by decide) (fun hc2 => ?_) (fun hc2 => ?_)
    · have h := h.1 hc2
      refine r_iload_n (y := m12_partsOf) dX12_partsOf_21 rfl rfl ?_
      refine r_bipush (y := m12_partsOf) (v := 30) dX12_partsOf_22 (by decide) ?_
      refine r_icmp_ge (y := m12_partsOf) (tgt := 39) dX12_partsOf_24 (by decide) (fun hc3 => ?_) (fun hc3 => ?_)
      · have h := h.1 hc3
        refine r_iload_n (y := m12_partsOf) dX12_partsOf_39 rfl rfl ?_
        refine r_bipush (y := m12_partsOf) (v := 33) dX12_partsOf_40 (by decide) ?_
        refine r_icmp_ne (y := m12_partsOf) (tgt := 49) dX12_partsOf_42 (by decide) (fun hc4 => ?_) (fun hc4 => ?_)
        · have h := h.1 hc4
          refine r_iconst (y := m12_partsOf) (v := 2) dX12_partsOf_49 (by decide) ?_
          exact r_iret (y := m12_partsOf) dX12_partsOf_50 rfl rfl h
        · have h := h.2 hc4
          refine r_iconst (y := m12_partsOf) (v := 1) dX12_partsOf_45 (by decide) ?_
          refine r_goto (y := m12_partsOf) (tgt := 50) dX12_partsOf_46 (by decide) ?_
          exact r_iret (y := m12_partsOf) dX12_partsOf_50 rfl rfl h
      · have h := h.2 hc3
        refine r_aload_n (y := m12_partsOf) dX12_partsOf_27 rfl rfl ?_
        refine g_X12_7 (y := m12_partsOf) rfl dX12_partsOf_28 hm ?_
        refine r_iload_n (y := m12_partsOf) dX12_partsOf_31 rfl rfl ?_
        refine r_bipush (y := m12_partsOf) (v := 20) dX12_partsOf_32 (by decide) ?_
        refine r_isub (y := m12_partsOf) dX12_partsOf_34 ?_
        obtain ⟨hb5, h⟩ := h
        refine r_iald (y := m12_partsOf) (n := 8) dX12_partsOf_35 (sa_669 hm) hb5 ?_
        refine r_goto (y := m12_partsOf) (tgt := 50) dX12_partsOf_36 (by decide) ?_
        exact r_iret (y := m12_partsOf) dX12_partsOf_50 rfl rfl h
    · have h := h.2 hc2
      refine r_iload_n (y := m12_partsOf) dX12_partsOf_14 rfl rfl ?_
      refine r_bipush (y := m12_partsOf) (v := 10) dX12_partsOf_15 (by decide) ?_
      refine r_isub (y := m12_partsOf) dX12_partsOf_17 ?_
      refine r_iconst (y := m12_partsOf) (v := 2) dX12_partsOf_18 (by decide) ?_
      refine r_idiv (y := m12_partsOf) dX12_partsOf_19 (by decide) ?_
      exact r_iret (y := m12_partsOf) dX12_partsOf_20 rfl rfl h
  · have h := h.2 hc1
    refine r_iconst (y := m12_partsOf) (v := 0) dX12_partsOf_6 (by decide) ?_
    exact r_iret (y := m12_partsOf) dX12_partsOf_7 rfl rfl h
set_option maxHeartbeats 4000000 in
set_option maxRecDepth 100000 in
theorem w12_function {m : Mm} {K : Option Value ⊕ String → Mm → Prop} (hm : St m) {a0 : Int32} {a1 : Int32}  (h : C m12_in [(.int a0), (.int 0), (.int 2)] m (fun o m1 => ∃ x3 : Int32, o = .inl (some (.int x3)) ∧ St m1 ∧ ((¬ x3 = 0 → ((¬ (mI m1 668 0) = 8 → (((0 : Int32) ≤ 0 → vp_in (mI m1 668 0) 8 ∧ vp_in (mI m1 668 0) 8 ∧ vp_nar .boolean a1 = a1 ∧ K (.inl (some (.int (((mI m1 668 0) + 1) - 1)))) (mSetI (mSetI (mSetI (mSetI m1 668 12 0) 669 (Int32.toNatClampNeg (mI m1 668 0)) a0) 670 (Int32.toNatClampNeg (mI m1 668 0)) a1) 668 0 ((mI m1 668 0) + 1))) ∧ (¬ (0 : Int32) ≤ 0 → K (.inl (some (.int 0))) (mSetI m1 668 12 0)))) ∧ ((mI m1 668 0) = 8 → (((2 : Int32) ≤ 0 → vp_in (mI m1 668 0) 8 ∧ vp_in (mI m1 668 0) 8 ∧ vp_nar .boolean a1 = a1 ∧ K (.inl (some (.int (((mI m1 668 0) + 1) - 1)))) (mSetI (mSetI (mSetI (mSetI m1 668 12 2) 669 (Int32.toNatClampNeg (mI m1 668 0)) a0) 670 (Int32.toNatClampNeg (mI m1 668 0)) a1) 668 0 ((mI m1 668 0) + 1))) ∧ (¬ (2 : Int32) ≤ 0 → K (.inl (some (.int 0))) (mSetI m1 668 12 2)))))) ∧ (x3 = 0 → (((1 : Int32) ≤ 0 → vp_in (mI m1 668 0) 8 ∧ vp_in (mI m1 668 0) 8 ∧ vp_nar .boolean a1 = a1 ∧ K (.inl (some (.int (((mI m1 668 0) + 1) - 1)))) (mSetI (mSetI (mSetI (mSetI m1 668 12 1) 669 (Int32.toNatClampNeg (mI m1 668 0)) a0) 670 (Int32.toNatClampNeg (mI m1 668 0)) a1) 668 0 ((mI m1 668 0) + 1))) ∧ (¬ (1 : Int32) ≤ 0 → K (.inl (some (.int 0))) (mSetI m1 668 12 1))))))) : V m12_function 0 [some (.ref 668), some (.int a0), some (.int a1)] [] m K := by
  refine r_aload_n (y := m12_function) dX12_function_0 rfl rfl ?_
  refine r_iload_n (y := m12_function) dX12_function_1 rfl rfl ?_
  refine r_iconst (y := m12_function) (v := 0) dX12_function_2 (by decide) ?_
  refine r_iconst (y := m12_function) (v := 2) dX12_function_3 (by decide) ?_
  refine r_callS (y := m12_function) (As := [(.int a0), (.int 0), (.int 2)]) dX12_function_4 rfl k12_in lm_X12_154 rfl ⟨by decide, by decide⟩ (Nat.le_of_ble_eq_true rfl) (C.mono h ?_)
  rintro _ m1 ⟨x3, rfl, hm2, h⟩
  refine ⟨_, rfl, ?_⟩
  refine r_if_ne (y := m12_function) (tgt := 14) dX12_function_7 (by decide) (fun hc4 => ?_) (fun hc4 => ?_)
  · have h := h.1 hc4
    refine r_aload_n (y := m12_function) dX12_function_14 rfl rfl ?_
    refine g_X12_151 (y := m12_function) rfl dX12_function_15 hm2 ?_
    refine r_bipush (y := m12_function) (v := 8) dX12_function_18 (by decide) ?_
    refine r_icmp_ne (y := m12_function) (tgt := 27) dX12_function_20 (by decide) (fun hc5 => ?_) (fun hc5 => ?_)
    · have h := h.1 hc5
      refine r_iconst (y := m12_function) (v := 0) dX12_function_27 (by decide) ?_
      refine p_X12_147 (y := m12_function) rfl dX12_function_28 hm2 ?_
      refine r_aload_n (y := m12_function) dX12_function_31 rfl rfl ?_
      refine g_X12_147 (y := m12_function) rfl dX12_function_32 (St.i hm2) ?_
      refine V.top (b := 0) (by first | rfl | simp [mI_set, mI_setR]) ?_
      refine r_if_le (y := m12_function) (tgt := 40) dX12_function_35 (by decide) (fun hc6 => ?_) (fun hc6 => ?_)
      · have h := h.1 hc6
        refine r_aload_n (y := m12_function) dX12_function_40 rfl rfl ?_
        refine g_X12_7 (y := m12_function) rfl dX12_function_41 (St.i hm2) ?_
        refine r_aload_n (y := m12_function) dX12_function_44 rfl rfl ?_
        refine g_X12_151 (y := m12_function) rfl dX12_function_45 (St.i hm2) ?_
        refine V.top (b := (mI m1 668 0)) (by first | rfl | simp [mI_set, mI_setR]) ?_
        refine r_iload_n (y := m12_function) dX12_function_48 rfl rfl ?_
        obtain ⟨hb7, h⟩ := h
        refine r_iast (y := m12_function) (n := 8) dX12_function_49 (sa_669 (St.i hm2)) hb7 ?_
        refine r_aload_n (y := m12_function) dX12_function_50 rfl rfl ?_
        refine g_X12_13 (y := m12_function) rfl dX12_function_51 (St.i (St.i hm2)) ?_
        refine r_aload_n (y := m12_function) dX12_function_54 rfl rfl ?_
        refine g_X12_151 (y := m12_function) rfl dX12_function_55 (St.i (St.i hm2)) ?_
        refine V.top (b := (mI m1 668 0)) (by first | rfl | simp [mI_set, mI_setR]) ?_
        refine r_iload_n (y := m12_function) dX12_function_58 rfl rfl ?_
        obtain ⟨hb8, hz, h⟩ := h
        refine r_zast (y := m12_function) (n := 8) dX12_function_59 (sa_670 (St.i (St.i hm2))) hb8 hz ?_
        refine r_aload_n (y := m12_function) dX12_function_60 rfl rfl ?_
        refine r_dup_r (y := m12_function) dX12_function_61 ?_
        refine g_X12_151 (y := m12_function) rfl dX12_function_62 (St.i (St.i (St.i hm2))) ?_
        refine V.top (b := (mI m1 668 0)) (by first | rfl | simp [mI_set, mI_setR]) ?_
        refine r_iconst (y := m12_function) (v := 1) dX12_function_65 (by decide) ?_
        refine r_iadd (y := m12_function) dX12_function_66 ?_
        refine p_X12_151 (y := m12_function) rfl dX12_function_67 (St.i (St.i (St.i hm2))) ?_
        refine r_aload_n (y := m12_function) dX12_function_70 rfl rfl ?_
        refine g_X12_151 (y := m12_function) rfl dX12_function_71 (St.i (St.i (St.i (St.i hm2)))) ?_
        refine V.top (b := ((mI m1 668 0) + 1)) (by first | rfl | simp [mI_set, mI_setR]) ?_
        refine r_iconst (y := m12_function) (v := 1) dX12_function_74 (by decide) ?_
        refine r_isub (y := m12_function) dX12_function_75 ?_
        exact r_iret (y := m12_function) dX12_function_76 rfl rfl h
      · have h := h.2 hc6
        refine r_iconst (y := m12_function) (v := 0) dX12_function_38 (by decide) ?_
        exact r_iret (y := m12_function) dX12_function_39 rfl rfl h
    · have h := h.2 hc5
      refine r_iconst (y := m12_function) (v := 2) dX12_function_23 (by decide) ?_
      refine r_goto (y := m12_function) (tgt := 28) dX12_function_24 (by decide) ?_
      refine p_X12_147 (y := m12_function) rfl dX12_function_28 hm2 ?_
      refine r_aload_n (y := m12_function) dX12_function_31 rfl rfl ?_
      refine g_X12_147 (y := m12_function) rfl dX12_function_32 (St.i hm2) ?_
      refine V.top (b := 2) (by first | rfl | simp [mI_set, mI_setR]) ?_
      refine r_if_le (y := m12_function) (tgt := 40) dX12_function_35 (by decide) (fun hc9 => ?_) (fun hc9 => ?_)
      · have h := h.1 hc9
        refine r_aload_n (y := m12_function) dX12_function_40 rfl rfl ?_
        refine g_X12_7 (y := m12_function) rfl dX12_function_41 (St.i hm2) ?_
        refine r_aload_n (y := m12_function) dX12_function_44 rfl rfl ?_
        refine g_X12_151 (y := m12_function) rfl dX12_function_45 (St.i hm2) ?_
        refine V.top (b := (mI m1 668 0)) (by first | rfl | simp [mI_set, mI_setR]) ?_
        refine r_iload_n (y := m12_function) dX12_function_48 rfl rfl ?_
        obtain ⟨hb10, h⟩ := h
        refine r_iast (y := m12_function) (n := 8) dX12_function_49 (sa_669 (St.i hm2)) hb10 ?_
        refine r_aload_n (y := m12_function) dX12_function_50 rfl rfl ?_
        refine g_X12_13 (y := m12_function) rfl dX12_function_51 (St.i (St.i hm2)) ?_
        refine r_aload_n (y := m12_function) dX12_function_54 rfl rfl ?_
        refine g_X12_151 (y := m12_function) rfl dX12_function_55 (St.i (St.i hm2)) ?_
        refine V.top (b := (mI m1 668 0)) (by first | rfl | simp [mI_set, mI_setR]) ?_
        refine r_iload_n (y := m12_function) dX12_function_58 rfl rfl ?_
        obtain ⟨hb11, hz, h⟩ := h
        refine r_zast (y := m12_function) (n := 8) dX12_function_59 (sa_670 (St.i (St.i hm2))) hb11 hz ?_
        refine r_aload_n (y := m12_function) dX12_function_60 rfl rfl ?_
        refine r_dup_r (y := m12_function) dX12_function_61 ?_
        refine g_X12_151 (y := m12_function) rfl dX12_function_62 (St.i (St.i (St.i hm2))) ?_
        refine V.top (b := (mI m1 668 0)) (by first | rfl | simp [mI_set, mI_setR]) ?_
        refine r_iconst (y := m12_function) (v := 1) dX12_function_65 (by decide) ?_
        refine r_iadd (y := m12_function) dX12_function_66 ?_
        refine p_X12_151 (y := m12_function) rfl dX12_function_67 (St.i (St.i (St.i hm2))) ?_
        refine r_aload_n (y := m12_function) dX12_function_70 rfl rfl ?_
        refine g_X12_151 (y := m12_function) rfl dX12_function_71 (St.i (St.i (St.i (St.i hm2)))) ?_
        refine V.top (b := ((mI m1 668 0) + 1)) (by first | rfl | simp [mI_set, mI_setR]) ?_
        refine r_iconst (y := m12_function) (v := 1) dX12_function_74 (by decide) ?_
        refine r_isub (y := m12_function) dX12_function_75 ?_
        exact r_iret (y := m12_function) dX12_function_76 rfl rfl h
      · have h := h.2 hc9
        refine r_iconst (y := m12_function) (v := 0) dX12_function_38 (by decide) ?_
        exact r_iret (y := m12_function) dX12_function_39 rfl rfl h
  · have h := h.2 hc4
    refine r_iconst (y := m12_function) (v := 1) dX12_function_10 (by decide) ?_
    refine r_goto (y := m12_function) (tgt := 28) dX12_function_11 (by decide) ?_
    refine p_X12_147 (y := m12_function) rfl dX12_function_28 hm2 ?_
    refine r_aload_n (y := m12_function) dX12_function_31 rfl rfl ?_
    refine g_X12_147 (y := m12_function) rfl dX12_function_32 (St.i hm2) ?_
    refine V.top (b := 1) (by first | rfl | simp [mI_set, mI_setR]) ?_
    refine r_if_le (y := m12_function) (tgt := 40) dX12_function_35 (by decide) (fun hc12 => ?_) (fun hc12 => ?_)
    · have h := h.1 hc12
      refine r_aload_n (y := m12_function) dX12_function_40 rfl rfl ?_
      refine g_X12_7 (y := m12_function) rfl dX12_function_41 (St.i hm2) ?_
      refine r_aload_n (y := m12_function) dX12_function_44 rfl rfl ?_
      refine g_X12_151 (y := m12_function) rfl dX12_function_45 (St.i hm2) ?_
      refine V.top (b := (mI m1 668 0)) (by first | rfl | simp [mI_set, mI_setR]) ?_
      refine r_iload_n (y := m12_function) dX12_function_48 rfl rfl ?_
      obtain ⟨hb13, h⟩ := h
      refine r_iast (y := m12_function) (n := 8) dX12_function_49 (sa_669 (St.i hm2)) hb13 ?_
      refine r_aload_n (y := m12_function) dX12_function_50 rfl rfl ?_
      refine g_X12_13 (y := m12_function) rfl dX12_function_51 (St.i (St.i hm2)) ?_
      refine r_aload_n (y := m12_function) dX12_function_54 rfl rfl ?_
      refine g_X12_151 (y := m12_function) rfl dX12_function_55 (St.i (St.i hm2)) ?_
      refine V.top (b := (mI m1 668 0)) (by first | rfl | simp [mI_set, mI_setR]) ?_
      refine r_iload_n (y := m12_function) dX12_function_58 rfl rfl ?_
      obtain ⟨hb14, hz, h⟩ := h
      refine r_zast (y := m12_function) (n := 8) dX12_function_59 (sa_670 (St.i (St.i hm2))) hb14 hz ?_
      refine r_aload_n (y := m12_function) dX12_function_60 rfl rfl ?_
      refine r_dup_r (y := m12_function) dX12_function_61 ?_
      refine g_X12_151 (y := m12_function) rfl dX12_function_62 (St.i (St.i (St.i hm2))) ?_
      refine V.top (b := (mI m1 668 0)) (by first | rfl | simp [mI_set, mI_setR]) ?_
      refine r_iconst (y := m12_function) (v := 1) dX12_function_65 (by decide) ?_
      refine r_iadd (y := m12_function) dX12_function_66 ?_
      refine p_X12_151 (y := m12_function) rfl dX12_function_67 (St.i (St.i (St.i hm2))) ?_
      refine r_aload_n (y := m12_function) dX12_function_70 rfl rfl ?_
      refine g_X12_151 (y := m12_function) rfl dX12_function_71 (St.i (St.i (St.i (St.i hm2)))) ?_
      refine V.top (b := ((mI m1 668 0) + 1)) (by first | rfl | simp [mI_set, mI_setR]) ?_
      refine r_iconst (y := m12_function) (v := 1) dX12_function_74 (by decide) ?_
      refine r_isub (y := m12_function) dX12_function_75 ?_
      exact r_iret (y := m12_function) dX12_function_76 rfl rfl h
    · have h := h.2 hc12
      refine r_iconst (y := m12_function) (v := 0) dX12_function_38 (by decide) ?_
      exact r_iret (y := m12_function) dX12_function_39 rfl rfl h
set_option maxHeartbeats 4000000 in
set_option maxRecDepth 100000 in
theorem w12_adds {m : Mm} {K : Option Value ⊕ String → Mm → Prop} (hm : St m) {a0 : Int32}  (h : vp_in (mI m 668 3) 80 ∧ V m12_adds 20 [some (.ref 668), some (.int a0), some (.int ((12 * (mI m 668 3)) + (mI m 671 (Int32.toNatClampNeg (mI m 668 3))))), some (.int 0)] [] m K) : V m12_adds 0 [some (.ref 668), some (.int a0), none, none] [] m K := by
  refine r_bipush (y := m12_adds) (v := 12) dX12_adds_0 (by decide) ?_
  refine r_aload_n (y := m12_adds) dX12_adds_2 rfl rfl ?_
  refine g_X12_158 (y := m12_adds) rfl dX12_adds_3 hm ?_
  refine r_imul (y := m12_adds) dX12_adds_6 ?_
  refine r_aload_n (y := m12_adds) dX12_adds_7 rfl rfl ?_
  refine g_X12_17 (y := m12_adds) rfl dX12_adds_8 hm ?_
  refine r_aload_n (y := m12_adds) dX12_adds_11 rfl rfl ?_
  refine g_X12_158 (y := m12_adds) rfl dX12_adds_12 hm ?_
  obtain ⟨hb1, h⟩ := h
  refine r_iald (y := m12_adds) (n := 80) dX12_adds_15 (sa_671 hm) hb1 ?_
  refine r_iadd (y := m12_adds) dX12_adds_16 ?_
  refine r_istore_n (y := m12_adds) (L' := [some (.ref 668), some (.int a0), some (.int ((12 * (mI m 668 3)) + (mI m 671 (Int32.toNatClampNeg (mI m 668 3))))), none]) dX12_adds_17 rfl (Nat.le_of_ble_eq_true rfl) rfl ?_
  refine r_iconst (y := m12_adds) (v := 0) dX12_adds_18 (by decide) ?_
  refine r_istore_n (y := m12_adds) (L' := [some (.ref 668), some (.int a0), some (.int ((12 * (mI m 668 3)) + (mI m 671 (Int32.toNatClampNeg (mI m 668 3))))), some (.int 0)]) dX12_adds_19 rfl (Nat.le_of_ble_eq_true rfl) rfl ?_
  exact h
set_option maxHeartbeats 4000000 in
set_option maxRecDepth 100000 in
theorem w12_adds_20 {m : Mm} {K : Option Value ⊕ String → Mm → Prop} (hm : St m) {v1 : Int32} {v2 : Int32} {v3 : Int32}  (h : vp_in v1 80 ∧ (((mI m 671 (Int32.toNatClampNeg v1)) ≤ v3 → vp_in (mI m 668 3) 80 ∧ vp_in v1 80 ∧ vp_in (mI m 668 3) 80 ∧ K (.inl none) (mSetI m 671 (Int32.toNatClampNeg (mI m 668 3)) ((mI m 671 (Int32.toNatClampNeg (mI m 668 3))) + (mI m 671 (Int32.toNatClampNeg v1))))) ∧ (¬ (mI m 671 (Int32.toNatClampNeg v1)) ≤ v3 → vp_in ((12 * v1) + v3) 960 ∧ vp_in (v2 + v3) 960 ∧ V m12_adds 20 [some (.ref 668), some (.int v1), some (.int v2), some (.int (v3 + 1))] [] (mSetI m 672 (Int32.toNatClampNeg (v2 + v3)) (mI m 672 (Int32.toNatClampNeg ((12 * v1) + v3)))) K))) : V m12_adds 20 [some (.ref 668), some (.int v1), some (.int v2), some (.int v3)] [] m K := by
  refine r_iload_n (y := m12_adds) dX12_adds_20 rfl rfl ?_
  refine r_aload_n (y := m12_adds) dX12_adds_21 rfl rfl ?_
  refine g_X12_17 (y := m12_adds) rfl dX12_adds_22 hm ?_
  refine r_iload_n (y := m12_adds) dX12_adds_25 rfl rfl ?_
  obtain ⟨hb1, h⟩ := h
  refine r_iald (y := m12_adds) (n := 80) dX12_adds_26 (sa_671 hm) hb1 ?_
  refine r_icmp_ge (y := m12_adds) (tgt := 55) dX12_adds_27 (by decide) (fun hc2 => ?_) (fun hc2 => ?_)
  · have h := h.1 hc2
    refine r_aload_n (y := m12_adds) dX12_adds_55 rfl rfl ?_
    refine g_X12_17 (y := m12_adds) rfl dX12_adds_56 hm ?_
    refine r_aload_n (y := m12_adds) dX12_adds_59 rfl rfl ?_
    refine g_X12_158 (y := m12_adds) rfl dX12_adds_60 hm ?_
    refine r_dup2 (y := m12_adds) dX12_adds_63 ?_
    obtain ⟨hb3, h⟩ := h
    refine r_iald (y := m12_adds) (n := 80) dX12_adds_64 (sa_671 hm) hb3 ?_
    refine r_aload_n (y := m12_adds) dX12_adds_65 rfl rfl ?_
    refine g_X12_17 (y := m12_adds) rfl dX12_adds_66 hm ?_
    refine r_iload_n (y := m12_adds) dX12_adds_69 rfl rfl ?_
    obtain ⟨hb4, h⟩ := h
    refine r_iald (y := m12_adds) (n := 80) dX12_adds_70 (sa_671 hm) hb4 ?_
    refine r_iadd (y := m12_adds) dX12_adds_71 ?_
    obtain ⟨hb5, h⟩ := h
    refine r_iast (y := m12_adds) (n := 80) dX12_adds_72 (sa_671 hm) hb5 ?_
    exact r_ret (y := m12_adds) dX12_adds_73 rfl h
  · have h := h.2 hc2
    refine r_aload_n (y := m12_adds) dX12_adds_30 rfl rfl ?_
    refine g_X12_20 (y := m12_adds) rfl dX12_adds_31 hm ?_
    refine r_iload_n (y := m12_adds) dX12_adds_34 rfl rfl ?_
    refine r_iload_n (y := m12_adds) dX12_adds_35 rfl rfl ?_
    refine r_iadd (y := m12_adds) dX12_adds_36 ?_
    refine r_aload_n (y := m12_adds) dX12_adds_37 rfl rfl ?_
    refine g_X12_20 (y := m12_adds) rfl dX12_adds_38 hm ?_
    refine r_bipush (y := m12_adds) (v := 12) dX12_adds_41 (by decide) ?_
    refine r_iload_n (y := m12_adds) dX12_adds_43 rfl rfl ?_
    refine r_imul (y := m12_adds) dX12_adds_44 ?_
    refine r_iload_n (y := m12_adds) dX12_adds_45 rfl rfl ?_
    refine r_iadd (y := m12_adds) dX12_adds_46 ?_
    obtain ⟨hb6, h⟩ := h
    refine r_iald (y := m12_adds) (n := 960) dX12_adds_47 (sa_672 hm) hb6 ?_
    obtain ⟨hb7, h⟩ := h
    refine r_iast (y := m12_adds) (n := 960) dX12_adds_48 (sa_672 hm) hb7 ?_
    refine r_iinc (y := m12_adds) (v := (v3 + 1)) (L' := [some (.ref 668), some (.int v1), some (.int v2), some (.int (v3 + 1))]) dX12_adds_49 rfl (by rfl) rfl ?_
    refine r_goto (y := m12_adds) (tgt := 20) dX12_adds_52 (by decide) ?_
    exact h
set_option maxHeartbeats 4000000 in
set_option maxRecDepth 100000 in
theorem w12_lay {m : Mm} {K : Option Value ⊕ String → Mm → Prop} (hm : St m) {a0 : Int32} {a1 : Int32} {a2 : Int32} {a3 : Int32}  (h : C m12_partsOf [(.ref 668), (.int a0)] m (fun o m1 => ∃ x3 : Int32, o = .inl (some (.int x3)) ∧ St m1 ∧ ((x3 ≤ 0 → ((x3 ≤ 1 → (((mI m1 668 3) = 80 → ((a3 ≤ 0 → vp_in (12 * (mI m1 668 3)) 960 ∧ vp_in (mI m1 668 3) 80 ∧ ((x3 ≤ 0 → V m12_lay 111 [some (.ref 668), some (.int a0), some (.int a1), some (.int a2), some (.int a3), some (.int x3), some (.int ((1 + 0) + 0))] [] (mSetI (mSetI (mSetI m1 668 12 a3) 672 (Int32.toNatClampNeg (12 * (mI m1 668 3))) a0) 671 (Int32.toNatClampNeg (mI m1 668 3)) 1) K) ∧ (¬ x3 ≤ 0 → C m12_adds [(.ref 668), (.int a1)] (mSetI (mSetI (mSetI m1 668 12 a3) 672 (Int32.toNatClampNeg (12 * (mI m1 668 3))) a0) 671 (Int32.toNatClampNeg (mI m1 668 3)) 1) (fun o m11 => o = .inl none ∧ St m11 ∧ V m12_lay 111 [some (.ref 668), some (.int a0), some (.int a1), some (.int a2), some (.int a3), some (.int x3), some (.int ((1 + 0) + 0))] [] m11 K)))) ∧ (¬ a3 ≤ 0 → K (.inl (some (.int 0))) (mSetI m1 668 12 a3)))) ∧ (¬ (mI m1 668 3) = 80 → (((((1 + 0) + 0) : Int32) ≤ 12 → (((0 : Int32) ≤ 0 → vp_in (12 * (mI m1 668 3)) 960 ∧ vp_in (mI m1 668 3) 80 ∧ ((x3 ≤ 0 → V m12_lay 111 [some (.ref 668), some (.int a0), some (.int a1), some (.int a2), some (.int a3), some (.int x3), some (.int ((1 + 0) + 0))] [] (mSetI (mSetI (mSetI m1 668 12 0) 672 (Int32.toNatClampNeg (12 * (mI m1 668 3))) a0) 671 (Int32.toNatClampNeg (mI m1 668 3)) 1) K) ∧ (¬ x3 ≤ 0 → C m12_adds [(.ref 668), (.int a1)] (mSetI (mSetI (mSetI m1 668 12 0) 672 (Int32.toNatClampNeg (12 * (mI m1 668 3))) a0) 671 (Int32.toNatClampNeg (mI m1 668 3)) 1) (fun o m18 => o = .inl none ∧ St m18 ∧ V m12_lay 111 [some (.ref 668), some (.int a0), some (.int a1), some (.int a2), some (.int a3), some (.int x3), some (.int ((1 + 0) + 0))] [] m18 K)))) ∧ (¬ (0 : Int32) ≤ 0 → K (.inl (some (.int 0))) (mSetI m1 668 12 0)))) ∧ (¬ (((1 + 0) + 0) : Int32) ≤ 12 → ((a3 ≤ 0 → vp_in (12 * (mI m1 668 3)) 960 ∧ vp_in (mI m1 668 3) 80 ∧ ((x3 ≤ 0 → V m12_lay 111 [some (.ref 668), some (.int a0), some (.int a1), some (.int a2), some (.int a3), some (.int x3), some (.int ((1 + 0) + 0))] [] (mSetI (mSetI (mSetI m1 668 12 a3) 672 (Int32.toNatClampNeg (12 * (mI m1 668 3))) a0) 671 (Int32.toNatClampNeg (mI m1 668 3)) 1) K) ∧ (¬ x3 ≤ 0 → C m12_adds [(.ref 668), (.int a1)] (mSetI (mSetI (mSetI m1 668 12 a3) 672 (Int32.toNatClampNeg (12 * (mI m1 668 3))) a0) 671 (Int32.toNatClampNeg (mI m1 668 3)) 1) (fun o m24 => o = .inl none ∧ St m24 ∧ V m12_lay 111 [some (.ref 668), some (.int a0), some (.int a1), some (.int a2), some (.int a3), some (.int x3), some (.int ((1 + 0) + 0))] [] m24 K)))) ∧ (¬ a3 ≤ 0 → K (.inl (some (.int 0))) (mSetI m1 668 12 a3)))))))) ∧ (¬ x3 ≤ 1 → vp_in a2 80 ∧ (((mI m1 668 3) = 80 → ((a3 ≤ 0 → vp_in (12 * (mI m1 668 3)) 960 ∧ vp_in (mI m1 668 3) 80 ∧ ((x3 ≤ 0 → V m12_lay 111 [some (.ref 668), some (.int a0), some (.int a1), some (.int a2), some (.int a3), some (.int x3), some (.int ((1 + 0) + (mI m1 671 (Int32.toNatClampNeg a2))))] [] (mSetI (mSetI (mSetI m1 668 12 a3) 672 (Int32.toNatClampNeg (12 * (mI m1 668 3))) a0) 671 (Int32.toNatClampNeg (mI m1 668 3)) 1) K) ∧ (¬ x3 ≤ 0 → C m12_adds [(.ref 668), (.int a1)] (mSetI (mSetI (mSetI m1 668 12 a3) 672 (Int32.toNatClampNeg (12 * (mI m1 668 3))) a0) 671 (Int32.toNatClampNeg (mI m1 668 3)) 1) (fun o m32 => o = .inl none ∧ St m32 ∧ V m12_lay 111 [some (.ref 668), some (.int a0), some (.int a1), some (.int a2), some (.int a3), some (.int x3), some (.int ((1 + 0) + (mI m1 671 (Int32.toNatClampNeg a2))))] [] m32 K)))) ∧ (¬ a3 ≤ 0 → K (.inl (some (.int 0))) (mSetI m1 668 12 a3)))) ∧ (¬ (mI m1 668 3) = 80 → ((((1 + 0) + (mI m1 671 (Int32.toNatClampNeg a2))) ≤ 12 → (((0 : Int32) ≤ 0 → vp_in (12 * (mI m1 668 3)) 960 ∧ vp_in (mI m1 668 3) 80 ∧ ((x3 ≤ 0 → V m12_lay 111 [some (.ref 668), some (.int a0), some (.int a1), some (.int a2), some (.int a3), some (.int x3), some (.int ((1 + 0) + (mI m1 671 (Int32.toNatClampNeg a2))))] [] (mSetI (mSetI (mSetI m1 668 12 0) 672 (Int32.toNatClampNeg (12 * (mI m1 668 3))) a0) 671 (Int32.toNatClampNeg (mI m1 668 3)) 1) K) ∧ (¬ x3 ≤ 0 → C m12_adds [(.ref 668), (.int a1)] (mSetI (mSetI (mSetI m1 668 12 0) 672 (Int32.toNatClampNeg (12 * (mI m1 668 3))) a0) 671 (Int32.toNatClampNeg (mI m1 668 3)) 1) (fun o m39 => o = .inl none ∧ St m39 ∧ V m12_lay 111 [some (.ref 668), some (.int a0), some (.int a1), some (.int a2), some (.int a3), some (.int x3), some (.int ((1 + 0) + (mI m1 671 (Int32.toNatClampNeg a2))))] [] m39 K)))) ∧ (¬ (0 : Int32) ≤ 0 → K (.inl (some (.int 0))) (mSetI m1 668 12 0)))) ∧ (¬ ((1 + 0) + (mI m1 671 (Int32.toNatClampNeg a2))) ≤ 12 → ((a3 ≤ 0 → vp_in (12 * (mI m1 668 3)) 960 ∧ vp_in (mI m1 668 3) 80 ∧ ((x3 ≤ 0 → V m12_lay 111 [some (.ref 668), some (.int a0), some (.int a1), some (.int a2), some (.int a3), some (.int x3), some (.int ((1 + 0) + (mI m1 671 (Int32.toNatClampNeg a2))))] [] (mSetI (mSetI (mSetI m1 668 12 a3) 672 (Int32.toNatClampNeg (12 * (mI m1 668 3))) a0) 671 (Int32.toNatClampNeg (mI m1 668 3)) 1) K) ∧ (¬ x3 ≤ 0 → C m12_adds [(.ref 668), (.int a1)] (mSetI (mSetI (mSetI m1 668 12 a3) 672 (Int32.toNatClampNeg (12 * (mI m1 668 3))) a0) 671 (Int32.toNatClampNeg (mI m1 668 3)) 1) (fun o m45 => o = .inl none ∧ St m45 ∧ V m12_lay 111 [some (.ref 668), some (.int a0), some (.int a1), some (.int a2), some (.int a3), some (.int x3), some (.int ((1 + 0) + (mI m1 671 (Int32.toNatClampNeg a2))))] [] m45 K)))) ∧ (¬ a3 ≤ 0 → K (.inl (some (.int 0))) (mSetI m1 668 12 a3)))))))))) ∧ (¬ x3 ≤ 0 → vp_in a1 80 ∧ ((x3 ≤ 1 → (((mI m1 668 3) = 80 → ((a3 ≤ 0 → vp_in (12 * (mI m1 668 3)) 960 ∧ vp_in (mI m1 668 3) 80 ∧ ((x3 ≤ 0 → V m12_lay 111 [some (.ref 668), some (.int a0), some (.int a1), some (.int a2), some (.int a3), some (.int x3), some (.int ((1 + (mI m1 671 (Int32.toNatClampNeg a1))) + 0))] [] (mSetI (mSetI (mSetI m1 668 12 a3) 672 (Int32.toNatClampNeg (12 * (mI m1 668 3))) a0) 671 (Int32.toNatClampNeg (mI m1 668 3)) 1) K) ∧ (¬ x3 ≤ 0 → C m12_adds [(.ref 668), (.int a1)] (mSetI (mSetI (mSetI m1 668 12 a3) 672 (Int32.toNatClampNeg (12 * (mI m1 668 3))) a0) 671 (Int32.toNatClampNeg (mI m1 668 3)) 1) (fun o m54 => o = .inl none ∧ St m54 ∧ V m12_lay 111 [some (.ref 668), some (.int a0), some (.int a1), some (.int a2), some (.int a3), some (.int x3), some (.int ((1 + (mI m1 671 (Int32.toNatClampNeg a1))) + 0))] [] m54 K)))) ∧ (¬ a3 ≤ 0 → K (.inl (some (.int 0))) (mSetI m1 668 12 a3)))) ∧ (¬ (mI m1 668 3) = 80 → ((((1 + (mI m1 671 (Int32.toNatClampNeg a1))) + 0) ≤ 12 → (((0 : Int32) ≤ 0 → vp_in (12 * (mI m1 668 3)) 960 ∧ vp_in (mI m1 668 3) 80 ∧ ((x3 ≤ 0 → V m12_lay 111 [some (.ref 668), some (.int a0), some (.int a1), some (.int a2), some (.int a3), some (.int x3), some (.int ((1 + (mI m1 671 (Int32.toNatClampNeg a1))) + 0))] [] (mSetI (mSetI (mSetI m1 668 12 0) 672 (Int32.toNatClampNeg (12 * (mI m1 668 3))) a0) 671 (Int32.toNatClampNeg (mI m1 668 3)) 1) K) ∧ (¬ x3 ≤ 0 → C m12_adds [(.ref 668), (.int a1)] (mSetI (mSetI (mSetI m1 668 12 0) 672 (Int32.toNatClampNeg (12 * (mI m1 668 3))) a0) 671 (Int32.toNatClampNeg (mI m1 668 3)) 1) (fun o m61 => o = .inl none ∧ St m61 ∧ V m12_lay 111 [some (.ref 668), some (.int a0), some (.int a1), some (.int a2), some (.int a3), some (.int x3), some (.int ((1 + (mI m1 671 (Int32.toNatClampNeg a1))) + 0))] [] m61 K)))) ∧ (¬ (0 : Int32) ≤ 0 → K (.inl (some (.int 0))) (mSetI m1 668 12 0)))) ∧ (¬ ((1 + (mI m1 671 (Int32.toNatClampNeg a1))) + 0) ≤ 12 → ((a3 ≤ 0 → vp_in (12 * (mI m1 668 3)) 960 ∧ vp_in (mI m1 668 3) 80 ∧ ((x3 ≤ 0 → V m12_lay 111 [some (.ref 668), some (.int a0), some (.int a1), some (.int a2), some (.int a3), some (.int x3), some (.int ((1 + (mI m1 671 (Int32.toNatClampNeg a1))) + 0))] [] (mSetI (mSetI (mSetI m1 668 12 a3) 672 (Int32.toNatClampNeg (12 * (mI m1 668 3))) a0) 671 (Int32.toNatClampNeg (mI m1 668 3)) 1) K) ∧ (¬ x3 ≤ 0 → C m12_adds [(.ref 668), (.int a1)] (mSetI (mSetI (mSetI m1 668 12 a3) 672 (Int32.toNatClampNeg (12 * (mI m1 668 3))) a0) 671 (Int32.toNatClampNeg (mI m1 668 3)) 1) (fun o m67 => o = .inl none ∧ St m67 ∧ V m12_lay 111 [some (.ref 668), some (.int a0), some (.int a1), some (.int a2), some (.int a3), some (.int x3), some (.int ((1 + (mI m1 671 (Int32.toNatClampNeg a1))) + 0))] [] m67 K)))) ∧ (¬ a3 ≤ 0 → K (.inl (some (.int 0))) (mSetI m1 668 12 a3)))))))) ∧ (¬ x3 ≤ 1 → vp_in a2 80 ∧ (((mI m1 668 3) = 80 → ((a3 ≤ 0 → vp_in (12 * (mI m1 668 3)) 960 ∧ vp_in (mI m1 668 3) 80 ∧ ((x3 ≤ 0 → V m12_lay 111 [some (.ref 668), some (.int a0), some (.int a1), some (.int a2), some (.int a3), some (.int x3), some (.int ((1 + (mI m1 671 (Int32.toNatClampNeg a1))) + (mI m1 671 (Int32.toNatClampNeg a2))))] [] (mSetI (mSetI (mSetI m1 668 12 a3) 672 (Int32.toNatClampNeg (12 * (mI m1 668 3))) a0) 671 (Int32.toNatClampNeg (mI m1 668 3)) 1) K) ∧ (¬ x3 ≤ 0 → C m12_adds [(.ref 668), (.int a1)] (mSetI (mSetI (mSetI m1 668 12 a3) 672 (Int32.toNatClampNeg (12 * (mI m1 668 3))) a0) 671 (Int32.toNatClampNeg (mI m1 668 3)) 1) (fun o m75 => o = .inl none ∧ St m75 ∧ V m12_lay 111 [some (.ref 668), some (.int a0), some (.int a1), some (.int a2), some (.int a3), some (.int x3), some (.int ((1 + (mI m1 671 (Int32.toNatClampNeg a1))) + (mI m1 671 (Int32.toNatClampNeg a2))))] [] m75 K)))) ∧ (¬ a3 ≤ 0 → K (.inl (some (.int 0))) (mSetI m1 668 12 a3)))) ∧ (¬ (mI m1 668 3) = 80 → ((((1 + (mI m1 671 (Int32.toNatClampNeg a1))) + (mI m1 671 (Int32.toNatClampNeg a2))) ≤ 12 → (((0 : Int32) ≤ 0 → vp_in (12 * (mI m1 668 3)) 960 ∧ vp_in (mI m1 668 3) 80 ∧ ((x3 ≤ 0 → V m12_lay 111 [some (.ref 668), some (.int a0), some (.int a1), some (.int a2), some (.int a3), some (.int x3), some (.int ((1 + (mI m1 671 (Int32.toNatClampNeg a1))) + (mI m1 671 (Int32.toNatClampNeg a2))))] [] (mSetI (mSetI (mSetI m1 668 12 0) 672 (Int32.toNatClampNeg (12 * (mI m1 668 3))) a0) 671 (Int32.toNatClampNeg (mI m1 668 3)) 1) K) ∧ (¬ x3 ≤ 0 → C m12_adds [(.ref 668), (.int a1)] (mSetI (mSetI (mSetI m1 668 12 0) 672 (Int32.toNatClampNeg (12 * (mI m1 668 3))) a0) 671 (Int32.toNatClampNeg (mI m1 668 3)) 1) (fun o m82 => o = .inl none ∧ St m82 ∧ V m12_lay 111 [some (.ref 668), some (.int a0), some (.int a1), some (.int a2), some (.int a3), some (.int x3), some (.int ((1 + (mI m1 671 (Int32.toNatClampNeg a1))) + (mI m1 671 (Int32.toNatClampNeg a2))))] [] m82 K)))) ∧ (¬ (0 : Int32) ≤ 0 → K (.inl (some (.int 0))) (mSetI m1 668 12 0)))) ∧ (¬ ((1 + (mI m1 671 (Int32.toNatClampNeg a1))) + (mI m1 671 (Int32.toNatClampNeg a2))) ≤ 12 → ((a3 ≤ 0 → vp_in (12 * (mI m1 668 3)) 960 ∧ vp_in (mI m1 668 3) 80 ∧ ((x3 ≤ 0 → V m12_lay 111 [some (.ref 668), some (.int a0), some (.int a1), some (.int a2), some (.int a3), some (.int x3), some (.int ((1 + (mI m1 671 (Int32.toNatClampNeg a1))) + (mI m1 671 (Int32.toNatClampNeg a2))))] [] (mSetI (mSetI (mSetI m1 668 12 a3) 672 (Int32.toNatClampNeg (12 * (mI m1 668 3))) a0) 671 (Int32.toNatClampNeg (mI m1 668 3)) 1) K) ∧ (¬ x3 ≤ 0 → C m12_adds [(.ref 668), (.int a1)] (mSetI (mSetI (mSetI m1 668 12 a3) 672 (Int32.toNatClampNeg (12 * (mI m1 668 3))) a0) 671 (Int32.toNatClampNeg (mI m1 668 3)) 1) (fun o m88 => o = .inl none ∧ St m88 ∧ V m12_lay 111 [some (.ref 668), some (.int a0), some (.int a1), some (.int a2), some (.int a3), some (.int x3), some (.int ((1 + (mI m1 671 (Int32.toNatClampNeg a1))) + (mI m1 671 (Int32.toNatClampNeg a2))))] [] m88 K)))) ∧ (¬ a3 ≤ 0 → K (.inl (some (.int 0))) (mSetI m1 668 12 a3))))))))))))) : V m12_lay 0 [some (.ref 668), some (.int a0), some (.int a1), some (.int a2), some (.int a3), none, none] [] m K := by
  refine r_aload_n (y := m12_lay) dX12_lay_0 rfl rfl ?_
  refine r_iload_n (y := m12_lay) dX12_lay_1 rfl rfl ?_
  refine r_callV (y := m12_lay) (As := [(.int a0)]) (b := 668) (ci := 12) dX12_lay_2 rfl k12_partsOf lm_X12_161 rfl ⟨by decide, by decide⟩ (so_668 hm) (by decide) rfl (Nat.le_of_ble_eq_true rfl) (C.mono h ?_)
  rintro _ m1 ⟨x3, rfl, hm2, h⟩
  refine ⟨_, rfl, ?_⟩
  refine r_istore (y := m12_lay) (L' := [some (.ref 668), some (.int a0), some (.int a1), some (.int a2), some (.int a3), some (.int x3), none]) dX12_lay_5 (Nat.le_of_ble_eq_true rfl) rfl ?_
  refine r_iconst (y := m12_lay) (v := 1) dX12_lay_7 (by decide) ?_
  refine r_iload (y := m12_lay) dX12_lay_8 rfl ?_
  refine r_if_le (y := m12_lay) (tgt := 22) dX12_lay_10 (by decide) (fun hc4 => ?_) (fun hc4 => ?_)
  · have h := h.1 hc4
    refine r_iconst (y := m12_lay) (v := 0) dX12_lay_22 (by decide) ?_
    refine r_iadd (y := m12_lay) dX12_lay_23 ?_
    refine r_iload (y := m12_lay) dX12_lay_24 rfl ?_
    refine r_iconst (y := m12_lay) (v := 1) dX12_lay_26 (by decide) ?_
    refine r_icmp_le (y := m12_lay) (tgt := 39) dX12_lay_27 (by decide) (fun hc5 => ?_) (fun hc5 => ?_)
    · have h := h.1 hc5
      refine r_iconst (y := m12_lay) (v := 0) dX12_lay_39 (by decide) ?_
      refine r_iadd (y := m12_lay) dX12_lay_40 ?_
      refine r_istore (y := m12_lay) (L' := [some (.ref 668), some (.int a0), some (.int a1), some (.int a2), some (.int a3), some (.int x3), some (.int ((1 + 0) + 0))]) dX12_lay_41 (Nat.le_of_ble_eq_true rfl) rfl ?_
      refine r_aload_n (y := m12_lay) dX12_lay_43 rfl rfl ?_
      refine r_aload_n (y := m12_lay) dX12_lay_44 rfl rfl ?_
      refine g_X12_158 (y := m12_lay) rfl dX12_lay_45 hm2 ?_
      refine r_bipush (y := m12_lay) (v := 80) dX12_lay_48 (by decide) ?_
      refine r_icmp_eq (y := m12_lay) (tgt := 60) dX12_lay_50 (by decide) (fun hc6 => ?_) (fun hc6 => ?_)
      · have h := h.1 hc6
        refine r_iload (y := m12_lay) dX12_lay_60 rfl ?_
        refine r_goto (y := m12_lay) (tgt := 66) dX12_lay_62 (by decide) ?_
        refine p_X12_147 (y := m12_lay) rfl dX12_lay_66 hm2 ?_
        refine r_aload_n (y := m12_lay) dX12_lay_69 rfl rfl ?_
        refine g_X12_147 (y := m12_lay) rfl dX12_lay_70 (St.i hm2) ?_
        refine V.top (b := a3) (by first | rfl | simp [mI_set, mI_setR]) ?_
        refine r_if_le (y := m12_lay) (tgt := 78) dX12_lay_73 (by decide) (fun hc7 => ?_) (fun hc7 => ?_)
        · have h := h.1 hc7
          refine r_aload_n (y := m12_lay) dX12_lay_78 rfl rfl ?_
          refine g_X12_20 (y := m12_lay) rfl dX12_lay_79 (St.i hm2) ?_
          refine r_bipush (y := m12_lay) (v := 12) dX12_lay_82 (by decide) ?_
          refine r_aload_n (y := m12_lay) dX12_lay_84 rfl rfl ?_
          refine g_X12_158 (y := m12_lay) rfl dX12_lay_85 (St.i hm2) ?_
          refine V.top (b := (mI m1 668 3)) (by first | rfl | simp [mI_set, mI_setR]) ?_
          refine r_imul (y := m12_lay) dX12_lay_88 ?_
          refine r_iload_n (y := m12_lay) dX12_lay_89 rfl rfl ?_
          obtain ⟨hb8, h⟩ := h
          refine r_iast (y := m12_lay) (n := 960) dX12_lay_90 (sa_672 (St.i hm2)) hb8 ?_
          refine r_aload_n (y := m12_lay) dX12_lay_91 rfl rfl ?_
          refine g_X12_17 (y := m12_lay) rfl dX12_lay_92 (St.i (St.i hm2)) ?_
          refine r_aload_n (y := m12_lay) dX12_lay_95 rfl rfl ?_
          refine g_X12_158 (y := m12_lay) rfl dX12_lay_96 (St.i (St.i hm2)) ?_
          refine V.top (b := (mI m1 668 3)) (by first | rfl | simp [mI_set, mI_setR]) ?_
          refine r_iconst (y := m12_lay) (v := 1) dX12_lay_99 (by decide) ?_
          obtain ⟨hb9, h⟩ := h
          refine r_iast (y := m12_lay) (n := 80) dX12_lay_100 (sa_671 (St.i (St.i hm2))) hb9 ?_
          refine r_iload (y := m12_lay) dX12_lay_101 rfl ?_
          refine r_if_le (y := m12_lay) (tgt := 111) dX12_lay_103 (by decide) (fun hc10 => ?_) (fun hc10 => ?_)
          · have h := h.1 hc10
            exact h
          · have h := h.2 hc10
            refine r_aload_n (y := m12_lay) dX12_lay_106 rfl rfl ?_
            refine r_iload_n (y := m12_lay) dX12_lay_107 rfl rfl ?_
            refine r_callV (y := m12_lay) (As := [(.int a1)]) (b := 668) (ci := 12) dX12_lay_108 rfl k12_adds lm_X12_165 rfl ⟨by decide, by decide⟩ (so_668 (St.i (St.i (St.i hm2)))) (by decide) rfl (Nat.le_of_ble_eq_true rfl) (C.mono h ?_)
            rintro _ m11 ⟨rfl, hm12, h⟩
            refine ⟨none, rfl, ?_⟩
            exact h
        · have h := h.2 hc7
          refine r_iconst (y := m12_lay) (v := 0) dX12_lay_76 (by decide) ?_
          exact r_iret (y := m12_lay) dX12_lay_77 rfl rfl h
      · have h := h.2 hc6
        refine r_iload (y := m12_lay) dX12_lay_53 rfl ?_
        refine r_bipush (y := m12_lay) (v := 12) dX12_lay_55 (by decide) ?_
        refine r_icmp_le (y := m12_lay) (tgt := 65) dX12_lay_57 (by decide) (fun hc13 => ?_) (fun hc13 => ?_)
        · have h := h.1 hc13
          refine r_iconst (y := m12_lay) (v := 0) dX12_lay_65 (by decide) ?_
          refine p_X12_147 (y := m12_lay) rfl dX12_lay_66 hm2 ?_
          refine r_aload_n (y := m12_lay) dX12_lay_69 rfl rfl ?_
          refine g_X12_147 (y := m12_lay) rfl dX12_lay_70 (St.i hm2) ?_
          refine V.top (b := 0) (by first | rfl | simp [mI_set, mI_setR]) ?_
          refine r_if_le (y := m12_lay) (tgt := 78) dX12_lay_73 (by decide) (fun hc14 => ?_) (fun hc14 => ?_)
          · have h := h.1 hc14
            refine r_aload_n (y := m12_lay) dX12_lay_78 rfl rfl ?_
            refine g_X12_20 (y := m12_lay) rfl dX12_lay_79 (St.i hm2) ?_
            refine r_bipush (y := m12_lay) (v := 12) dX12_lay_82 (by decide) ?_
            refine r_aload_n (y := m12_lay) dX12_lay_84 rfl rfl ?_
            refine g_X12_158 (y := m12_lay) rfl dX12_lay_85 (St.i hm2) ?_
            refine V.top (b := (mI m1 668 3)) (by first | rfl | simp [mI_set, mI_setR]) ?_
            refine r_imul (y := m12_lay) dX12_lay_88 ?_
            refine r_iload_n (y := m12_lay) dX12_lay_89 rfl rfl ?_
            obtain ⟨hb15, h⟩ := h
            refine r_iast (y := m12_lay) (n := 960) dX12_lay_90 (sa_672 (St.i hm2)) hb15 ?_
            refine r_aload_n (y := m12_lay) dX12_lay_91 rfl rfl ?_
            refine g_X12_17 (y := m12_lay) rfl dX12_lay_92 (St.i (St.i hm2)) ?_
            refine r_aload_n (y := m12_lay) dX12_lay_95 rfl rfl ?_
            refine g_X12_158 (y := m12_lay) rfl dX12_lay_96 (St.i (St.i hm2)) ?_
            refine V.top (b := (mI m1 668 3)) (by first | rfl | simp [mI_set, mI_setR]) ?_
            refine r_iconst (y := m12_lay) (v := 1) dX12_lay_99 (by decide) ?_
            obtain ⟨hb16, h⟩ := h
            refine r_iast (y := m12_lay) (n := 80) dX12_lay_100 (sa_671 (St.i (St.i hm2))) hb16 ?_
            refine r_iload (y := m12_lay) dX12_lay_101 rfl ?_
            refine r_if_le (y := m12_lay) (tgt := 111) dX12_lay_103 (by decide) (fun hc17 => ?_) (fun hc17 => ?_)
            · have h := h.1 hc17
              exact h
            · have h := h.2 hc17
              refine r_aload_n (y := m12_lay) dX12_lay_106 rfl rfl ?_
              refine r_iload_n (y := m12_lay) dX12_lay_107 rfl rfl ?_
              refine r_callV (y := m12_lay) (As := [(.int a1)]) (b := 668) (ci := 12) dX12_lay_108 rfl k12_adds lm_X12_165 rfl ⟨by decide, by decide⟩ (so_668 (St.i (St.i (St.i hm2)))) (by decide) rfl (Nat.le_of_ble_eq_true rfl) (C.mono h ?_)
              rintro _ m18 ⟨rfl, hm19, h⟩
              refine ⟨none, rfl, ?_⟩
              exact h
          · have h := h.2 hc14
            refine r_iconst (y := m12_lay) (v := 0) dX12_lay_76 (by decide) ?_
            exact r_iret (y := m12_lay) dX12_lay_77 rfl rfl h
        · have h := h.2 hc13
          refine r_iload (y := m12_lay) dX12_lay_60 rfl ?_
          refine r_goto (y := m12_lay) (tgt := 66) dX12_lay_62 (by decide) ?_
          refine p_X12_147 (y := m12_lay) rfl dX12_lay_66 hm2 ?_
          refine r_aload_n (y := m12_lay) dX12_lay_69 rfl rfl ?_
          refine g_X12_147 (y := m12_lay) rfl dX12_lay_70 (St.i hm2) ?_
          refine V.top (b := a3) (by first | rfl | simp [mI_set, mI_setR]) ?_
          refine r_if_le (y := m12_lay) (tgt := 78) dX12_lay_73 (by decide) (fun hc20 => ?_) (fun hc20 => ?_)
          · have h := h.1 hc20
            refine r_aload_n (y := m12_lay) dX12_lay_78 rfl rfl ?_
            refine g_X12_20 (y := m12_lay) rfl dX12_lay_79 (St.i hm2) ?_
            refine r_bipush (y := m12_lay) (v := 12) dX12_lay_82 (by decide) ?_
            refine r_aload_n (y := m12_lay) dX12_lay_84 rfl rfl ?_
            refine g_X12_158 (y := m12_lay) rfl dX12_lay_85 (St.i hm2) ?_
            refine V.top (b := (mI m1 668 3)) (by first | rfl | simp [mI_set, mI_setR]) ?_
            refine r_imul (y := m12_lay) dX12_lay_88 ?_
            refine r_iload_n (y := m12_lay) dX12_lay_89 rfl rfl ?_
            obtain ⟨hb21, h⟩ := h
            refine r_iast (y := m12_lay) (n := 960) dX12_lay_90 (sa_672 (St.i hm2)) hb21 ?_
            refine r_aload_n (y := m12_lay) dX12_lay_91 rfl rfl ?_
            refine g_X12_17 (y := m12_lay) rfl dX12_lay_92 (St.i (St.i hm2)) ?_
            refine r_aload_n (y := m12_lay) dX12_lay_95 rfl rfl ?_
            refine g_X12_158 (y := m12_lay) rfl dX12_lay_96 (St.i (St.i hm2)) ?_
            refine V.top (b := (mI m1 668 3)) (by first | rfl | simp [mI_set, mI_setR]) ?_
            refine r_iconst (y := m12_lay) (v := 1) dX12_lay_99 (by decide) ?_
            obtain ⟨hb22, h⟩ := h
            refine r_iast (y := m12_lay) (n := 80) dX12_lay_100 (sa_671 (St.i (St.i hm2))) hb22 ?_
            refine r_iload (y := m12_lay) dX12_lay_101 rfl ?_
            refine r_if_le (y := m12_lay) (tgt := 111) dX12_lay_103 (by decide) (fun hc23 => ?_) (fun hc23 => ?_)
            · have h := h.1 hc23
              exact h
            · have h := h.2 hc23
              refine r_aload_n (y := m12_lay) dX12_lay_106 rfl rfl ?_
              refine r_iload_n (y := m12_lay) dX12_lay_107 rfl rfl ?_
              refine r_callV (y := m12_lay) (As := [(.int a1)]) (b := 668) (ci := 12) dX12_lay_108 rfl k12_adds lm_X12_165 rfl ⟨by decide, by decide⟩ (so_668 (St.i (St.i (St.i hm2)))) (by decide) rfl (Nat.le_of_ble_eq_true rfl) (C.mono h ?_)
              rintro _ m24 ⟨rfl, hm25, h⟩
              refine ⟨none, rfl, ?_⟩
              exact h
          · have h := h.2 hc20
            refine r_iconst (y := m12_lay) (v := 0) dX12_lay_76 (by decide) ?_
            exact r_iret (y := m12_lay) dX12_lay_77 rfl rfl h
    · have h := h.2 hc5
      refine r_aload_n (y := m12_lay) dX12_lay_30 rfl rfl ?_
      refine g_X12_17 (y := m12_lay) rfl dX12_lay_31 hm2 ?_
      refine r_iload_n (y := m12_lay) dX12_lay_34 rfl rfl ?_
      obtain ⟨hb26, h⟩ := h
      refine r_iald (y := m12_lay) (n := 80) dX12_lay_35 (sa_671 hm2) hb26 ?_
      refine r_goto (y := m12_lay) (tgt := 40) dX12_lay_36 (by decide) ?_
      refine r_iadd (y := m12_lay) dX12_lay_40 ?_
      refine r_istore (y := m12_lay) (L' := [some (.ref 668), some (.int a0), some (.int a1), some (.int a2), some (.int a3), some (.int x3), some (.int ((1 + 0) + (mI m1 671 (Int32.toNatClampNeg a2))))]) dX12_lay_41 (Nat.le_of_ble_eq_true rfl) rfl ?_
      refine r_aload_n (y := m12_lay) dX12_lay_43 rfl rfl ?_
      refine r_aload_n (y := m12_lay) dX12_lay_44 rfl rfl ?_
      refine g_X12_158 (y := m12_lay) rfl dX12_lay_45 hm2 ?_
      refine r_bipush (y := m12_lay) (v := 80) dX12_lay_48 (by decide) ?_
      refine r_icmp_eq (y := m12_lay) (tgt := 60) dX12_lay_50 (by decide) (fun hc27 => ?_) (fun hc27 => ?_)
      · have h := h.1 hc27
        refine r_iload (y := m12_lay) dX12_lay_60 rfl ?_
        refine r_goto (y := m12_lay) (tgt := 66) dX12_lay_62 (by decide) ?_
        refine p_X12_147 (y := m12_lay) rfl dX12_lay_66 hm2 ?_
        refine r_aload_n (y := m12_lay) dX12_lay_69 rfl rfl ?_
        refine g_X12_147 (y := m12_lay) rfl dX12_lay_70 (St.i hm2) ?_
        refine V.top (b := a3) (by first | rfl | simp [mI_set, mI_setR]) ?_
        refine r_if_le (y := m12_lay) (tgt := 78) dX12_lay_73 (by decide) (fun hc28 => ?_) (fun hc28 => ?_)
        · have h := h.1 hc28
          refine r_aload_n (y := m12_lay) dX12_lay_78 rfl rfl ?_
          refine g_X12_20 (y := m12_lay) rfl dX12_lay_79 (St.i hm2) ?_
          refine r_bipush (y := m12_lay) (v := 12) dX12_lay_82 (by decide) ?_
          refine r_aload_n (y := m12_lay) dX12_lay_84 rfl rfl ?_
          refine g_X12_158 (y := m12_lay) rfl dX12_lay_85 (St.i hm2) ?_
          refine V.top (b := (mI m1 668 3)) (by first | rfl | simp [mI_set, mI_setR]) ?_
          refine r_imul (y := m12_lay) dX12_lay_88 ?_
          refine r_iload_n (y := m12_lay) dX12_lay_89 rfl rfl ?_
          obtain ⟨hb29, h⟩ := h
          refine r_iast (y := m12_lay) (n := 960) dX12_lay_90 (sa_672 (St.i hm2)) hb29 ?_
          refine r_aload_n (y := m12_lay) dX12_lay_91 rfl rfl ?_
          refine g_X12_17 (y := m12_lay) rfl dX12_lay_92 (St.i (St.i hm2)) ?_
          refine r_aload_n (y := m12_lay) dX12_lay_95 rfl rfl ?_
          refine g_X12_158 (y := m12_lay) rfl dX12_lay_96 (St.i (St.i hm2)) ?_
          refine V.top (b := (mI m1 668 3)) (by first | rfl | simp [mI_set, mI_setR]) ?_
          refine r_iconst (y := m12_lay) (v := 1) dX12_lay_99 (by decide) ?_
          obtain ⟨hb30, h⟩ := h
          refine r_iast (y := m12_lay) (n := 80) dX12_lay_100 (sa_671 (St.i (St.i hm2))) hb30 ?_
          refine r_iload (y := m12_lay) dX12_lay_101 rfl ?_
          refine r_if_le (y := m12_lay) (tgt := 111) dX12_lay_103 (by decide) (fun hc31 => ?_) (fun hc31 => ?_)
          · have h := h.1 hc31
            exact h
          · have h := h.2 hc31
            refine r_aload_n (y := m12_lay) dX12_lay_106 rfl rfl ?_
            refine r_iload_n (y := m12_lay) dX12_lay_107 rfl rfl ?_
            refine r_callV (y := m12_lay) (As := [(.int a1)]) (b := 668) (ci := 12) dX12_lay_108 rfl k12_adds lm_X12_165 rfl ⟨by decide, by decide⟩ (so_668 (St.i (St.i (St.i hm2)))) (by decide) rfl (Nat.le_of_ble_eq_true rfl) (C.mono h ?_)
            rintro _ m32 ⟨rfl, hm33, h⟩
            refine ⟨none, rfl, ?_⟩
            exact h
        · have h := h.2 hc28
          refine r_iconst (y := m12_lay) (v := 0) dX12_lay_76 (by decide) ?_
          exact r_iret (y := m12_lay) dX12_lay_77 rfl rfl h
      · have h := h.2 hc27
        refine r_iload (y := m12_lay) dX12_lay_53 rfl ?_
        refine r_bipush (y := m12_lay) (v := 12) dX12_lay_55 (by decide) ?_
        refine r_icmp_le (y := m12_lay) (tgt := 65) dX12_lay_57 (by decide) (fun hc34 => ?_) (fun hc34 => ?_)
        · have h := h.1 hc34
          refine r_iconst (y := m12_lay) (v := 0) dX12_lay_65 (by decide) ?_
          refine p_X12_147 (y := m12_lay) rfl dX12_lay_66 hm2 ?_
          refine r_aload_n (y := m12_lay) dX12_lay_69 rfl rfl ?_
          refine g_X12_147 (y := m12_lay) rfl dX12_lay_70 (St.i hm2) ?_
          refine V.top (b := 0) (by first | rfl | simp [mI_set, mI_setR]) ?_
          refine r_if_le (y := m12_lay) (tgt := 78) dX12_lay_73 (by decide) (fun hc35 => ?_) (fun hc35 => ?_)
          · have h := h.1 hc35
            refine r_aload_n (y := m12_lay) dX12_lay_78 rfl rfl ?_
            refine g_X12_20 (y := m12_lay) rfl dX12_lay_79 (St.i hm2) ?_
            refine r_bipush (y := m12_lay) (v := 12) dX12_lay_82 (by decide) ?_
            refine r_aload_n (y := m12_lay) dX12_lay_84 rfl rfl ?_
            refine g_X12_158 (y := m12_lay) rfl dX12_lay_85 (St.i hm2) ?_
            refine V.top (b := (mI m1 668 3)) (by first | rfl | simp [mI_set, mI_setR]) ?_
            refine r_imul (y := m12_lay) dX12_lay_88 ?_
            refine r_iload_n (y := m12_lay) dX12_lay_89 rfl rfl ?_
            obtain ⟨hb36, h⟩ := h
            refine r_iast (y := m12_lay) (n := 960) dX12_lay_90 (sa_672 (St.i hm2)) hb36 ?_
            refine r_aload_n (y := m12_lay) dX12_lay_91 rfl rfl ?_
            refine g_X12_17 (y := m12_lay) rfl dX12_lay_92 (St.i (St.i hm2)) ?_
            refine r_aload_n (y := m12_lay) dX12_lay_95 rfl rfl ?_
            refine g_X12_158 (y := m12_lay) rfl dX12_lay_96 (St.i (St.i hm2)) ?_
            refine V.top (b := (mI m1 668 3)) (by first | rfl | simp [mI_set, mI_setR]) ?_
            refine r_iconst (y := m12_lay) (v := 1) dX12_lay_99 (by decide) ?_
            obtain ⟨hb37, h⟩ := h
            refine r_iast (y := m12_lay) (n := 80) dX12_lay_100 (sa_671 (St.i (St.i hm2))) hb37 ?_
            refine r_iload (y := m12_lay) dX12_lay_101 rfl ?_
            refine r_if_le (y := m12_lay) (tgt := 111) dX12_lay_103 (by decide) (fun hc38 => ?_) (fun hc38 => ?_)
            · have h := h.1 hc38
              exact h
            · have h := h.2 hc38
              refine r_aload_n (y := m12_lay) dX12_lay_106 rfl rfl ?_
              refine r_iload_n (y := m12_lay) dX12_lay_107 rfl rfl ?_
              refine r_callV (y := m12_lay) (As := [(.int a1)]) (b := 668) (ci := 12) dX12_lay_108 rfl k12_adds lm_X12_165 rfl ⟨by decide, by decide⟩ (so_668 (St.i (St.i (St.i hm2)))) (by decide) rfl (Nat.le_of_ble_eq_true rfl) (C.mono h ?_)
              rintro _ m39 ⟨rfl, hm40, h⟩
              refine ⟨none, rfl, ?_⟩
              exact h
          · have h := h.2 hc35
            refine r_iconst (y := m12_lay) (v := 0) dX12_lay_76 (by decide) ?_
            exact r_iret (y := m12_lay) dX12_lay_77 rfl rfl h
        · have h := h.2 hc34
          refine r_iload (y := m12_lay) dX12_lay_60 rfl ?_
          refine r_goto (y := m12_lay) (tgt := 66) dX12_lay_62 (by decide) ?_
          refine p_X12_147 (y := m12_lay) rfl dX12_lay_66 hm2 ?_
          refine r_aload_n (y := m12_lay) dX12_lay_69 rfl rfl ?_
          refine g_X12_147 (y := m12_lay) rfl dX12_lay_70 (St.i hm2) ?_
          refine V.top (b := a3) (by first | rfl | simp [mI_set, mI_setR]) ?_
          refine r_if_le (y := m12_lay) (tgt := 78) dX12_lay_73 (by decide) (fun hc41 => ?_) (fun hc41 => ?_)
          · have h := h.1 hc41
            refine r_aload_n (y := m12_lay) dX12_lay_78 rfl rfl ?_
            refine g_X12_20 (y := m12_lay) rfl dX12_lay_79 (St.i hm2) ?_
            refine r_bipush (y := m12_lay) (v := 12) dX12_lay_82 (by decide) ?_
            refine r_aload_n (y := m12_lay) dX12_lay_84 rfl rfl ?_
            refine g_X12_158 (y := m12_lay) rfl dX12_lay_85 (St.i hm2) ?_
            refine V.top (b := (mI m1 668 3)) (by first | rfl | simp [mI_set, mI_setR]) ?_
            refine r_imul (y := m12_lay) dX12_lay_88 ?_
            refine r_iload_n (y := m12_lay) dX12_lay_89 rfl rfl ?_
            obtain ⟨hb42, h⟩ := h
            refine r_iast (y := m12_lay) (n := 960) dX12_lay_90 (sa_672 (St.i hm2)) hb42 ?_
            refine r_aload_n (y := m12_lay) dX12_lay_91 rfl rfl ?_
            refine g_X12_17 (y := m12_lay) rfl dX12_lay_92 (St.i (St.i hm2)) ?_
            refine r_aload_n (y := m12_lay) dX12_lay_95 rfl rfl ?_
            refine g_X12_158 (y := m12_lay) rfl dX12_lay_96 (St.i (St.i hm2)) ?_
            refine V.top (b := (mI m1 668 3)) (by first | rfl | simp [mI_set, mI_setR]) ?_
            refine r_iconst (y := m12_lay) (v := 1) dX12_lay_99 (by decide) ?_
            obtain ⟨hb43, h⟩ := h
            refine r_iast (y := m12_lay) (n := 80) dX12_lay_100 (sa_671 (St.i (St.i hm2))) hb43 ?_
            refine r_iload (y := m12_lay) dX12_lay_101 rfl ?_
            refine r_if_le (y := m12_lay) (tgt := 111) dX12_lay_103 (by decide) (fun hc44 => ?_) (fun hc44 => ?_)
            · have h := h.1 hc44
              exact h
            · have h := h.2 hc44
              refine r_aload_n (y := m12_lay) dX12_lay_106 rfl rfl ?_
              refine r_iload_n (y := m12_lay) dX12_lay_107 rfl rfl ?_
              refine r_callV (y := m12_lay) (As := [(.int a1)]) (b := 668) (ci := 12) dX12_lay_108 rfl k12_adds lm_X12_165 rfl ⟨by decide, by decide⟩ (so_668 (St.i (St.i (St.i hm2)))) (by decide) rfl (Nat.le_of_ble_eq_true rfl) (C.mono h ?_)
              rintro _ m45 ⟨rfl, hm46, h⟩
              refine ⟨none, rfl, ?_⟩
              exact h
          · have h := h.2 hc41
            refine r_iconst (y := m12_lay) (v := 0) dX12_lay_76 (by decide) ?_
            exact r_iret (y := m12_lay) dX12_lay_77 rfl rfl h
  · have h := h.2 hc4
    refine r_aload_n (y := m12_lay) dX12_lay_13 rfl rfl ?_
    refine g_X12_17 (y := m12_lay) rfl dX12_lay_14 hm2 ?_
    refine r_iload_n (y := m12_lay) dX12_lay_17 rfl rfl ?_
    obtain ⟨hb47, h⟩ := h
    refine r_iald (y := m12_lay) (n := 80) dX12_lay_18 (sa_671 hm2) hb47 ?_
    refine r_goto (y := m12_lay) (tgt := 23) dX12_lay_19 (by decide) ?_
    refine r_iadd (y := m12_lay) dX12_lay_23 ?_
    refine r_iload (y := m12_lay) dX12_lay_24 rfl ?_
    refine r_iconst (y := m12_lay) (v := 1) dX12_lay_26 (by decide) ?_
    refine r_icmp_le (y := m12_lay) (tgt := 39) dX12_lay_27 (by decide) (fun hc48 => ?_) (fun hc48 => ?_)
    · have h := h.1 hc48
      refine r_iconst (y := m12_lay) (v := 0) dX12_lay_39 (by decide) ?_
      refine r_iadd (y := m12_lay) dX12_lay_40 ?_
      refine r_istore (y := m12_lay) (L' := [some (.ref 668), some (.int a0), some (.int a1), some (.int a2), some (.int a3), some (.int x3), some (.int ((1 + (mI m1 671 (Int32.toNatClampNeg a1))) + 0))]) dX12_lay_41 (Nat.le_of_ble_eq_true rfl) rfl ?_
      refine r_aload_n (y := m12_lay) dX12_lay_43 rfl rfl ?_
      refine r_aload_n (y := m12_lay) dX12_lay_44 rfl rfl ?_
      refine g_X12_158 (y := m12_lay) rfl dX12_lay_45 hm2 ?_
      refine r_bipush (y := m12_lay) (v := 80) dX12_lay_48 (by decide) ?_
      refine r_icmp_eq (y := m12_lay) (tgt := 60) dX12_lay_50 (by decide) (fun hc49 => ?_) (fun hc49 => ?_)
      · have h := h.1 hc49
        refine r_iload (y := m12_lay) dX12_lay_60 rfl ?_
        refine r_goto (y := m12_lay) (tgt := 66) dX12_lay_62 (by decide) ?_
        refine p_X12_147 (y := m12_lay) rfl dX12_lay_66 hm2 ?_
        refine r_aload_n (y := m12_lay) dX12_lay_69 rfl rfl ?_
        refine g_X12_147 (y := m12_lay) rfl dX12_lay_70 (St.i hm2) ?_
        refine V.top (b := a3) (by first | rfl | simp [mI_set, mI_setR]) ?_
        refine r_if_le (y := m12_lay) (tgt := 78) dX12_lay_73 (by decide) (fun hc50 => ?_) (fun hc50 => ?_)
        · have h := h.1 hc50
          refine r_aload_n (y := m12_lay) dX12_lay_78 rfl rfl ?_
          refine g_X12_20 (y := m12_lay) rfl dX12_lay_79 (St.i hm2) ?_
          refine r_bipush (y := m12_lay) (v := 12) dX12_lay_82 (by decide) ?_
          refine r_aload_n (y := m12_lay) dX12_lay_84 rfl rfl ?_
          refine g_X12_158 (y := m12_lay) rfl dX12_lay_85 (St.i hm2) ?_
          refine V.top (b := (mI m1 668 3)) (by first | rfl | simp [mI_set, mI_setR]) ?_
          refine r_imul (y := m12_lay) dX12_lay_88 ?_
          refine r_iload_n (y := m12_lay) dX12_lay_89 rfl rfl ?_
          obtain ⟨hb51, h⟩ := h
          refine r_iast (y := m12_lay) (n := 960) dX12_lay_90 (sa_672 (St.i hm2)) hb51 ?_
          refine r_aload_n (y := m12_lay) dX12_lay_91 rfl rfl ?_
          refine g_X12_17 (y := m12_lay) rfl dX12_lay_92 (St.i (St.i hm2)) ?_
          refine r_aload_n (y := m12_lay) dX12_lay_95 rfl rfl ?_
          refine g_X12_158 (y := m12_lay) rfl dX12_lay_96 (St.i (St.i hm2)) ?_
          refine V.top (b := (mI m1 668 3)) (by first | rfl | simp [mI_set, mI_setR]) ?_
          refine r_iconst (y := m12_lay) (v := 1) dX12_lay_99 (by decide) ?_
          obtain ⟨hb52, h⟩ := h
          refine r_iast (y := m12_lay) (n := 80) dX12_lay_100 (sa_671 (St.i (St.i hm2))) hb52 ?_
          refine r_iload (y := m12_lay) dX12_lay_101 rfl ?_
          refine r_if_le (y := m12_lay) (tgt := 111) dX12_lay_103 (by decide) (fun hc53 => ?_) (fun hc53 => ?_)
          · have h := h.1 hc53
            exact h
          · have h := h.2 hc53
            refine r_aload_n (y := m12_lay) dX12_lay_106 rfl rfl ?_
            refine r_iload_n (y := m12_lay) dX12_lay_107 rfl rfl ?_
            refine r_callV (y := m12_lay) (As := [(.int a1)]) (b := 668) (ci := 12) dX12_lay_108 rfl k12_adds lm_X12_165 rfl ⟨by decide, by decide⟩ (so_668 (St.i (St.i (St.i hm2)))) (by decide) rfl (Nat.le_of_ble_eq_true rfl) (C.mono h ?_)
            rintro _ m54 ⟨rfl, hm55, h⟩
            refine ⟨none, rfl, ?_⟩
            exact h
        · have h := h.2 hc50
          refine r_iconst (y := m12_lay) (v := 0) dX12_lay_76 (by decide) ?_
          exact r_iret (y := m12_lay) dX12_lay_77 rfl rfl h
      · have h := h.2 hc49
        refine r_iload (y := m12_lay) dX12_lay_53 rfl ?_
        refine r_bipush (y := m12_lay) (v := 12) dX12_lay_55 (by decide) ?_
        refine r_icmp_le (y := m12_lay) (tgt := 65) dX12_lay_57 (by decide) (fun hc56 => ?_) (fun hc56 => ?_)
        · have h := h.1 hc56
          refine r_iconst (y := m12_lay) (v := 0) dX12_lay_65 (by decide) ?_
          refine p_X12_147 (y := m12_lay) rfl dX12_lay_66 hm2 ?_
          refine r_aload_n (y := m12_lay) dX12_lay_69 rfl rfl ?_
          refine g_X12_147 (y := m12_lay) rfl dX12_lay_70 (St.i hm2) ?_
          refine V.top (b := 0) (by first | rfl | simp [mI_set, mI_setR]) ?_
          refine r_if_le (y := m12_lay) (tgt := 78) dX12_lay_73 (by decide) (fun hc57 => ?_) (fun hc57 => ?_)
          · have h := h.1 hc57
            refine r_aload_n (y := m12_lay) dX12_lay_78 rfl rfl ?_
            refine g_X12_20 (y := m12_lay) rfl dX12_lay_79 (St.i hm2) ?_
            refine r_bipush (y := m12_lay) (v := 12) dX12_lay_82 (by decide) ?_
            refine r_aload_n (y := m12_lay) dX12_lay_84 rfl rfl ?_
            refine g_X12_158 (y := m12_lay) rfl dX12_lay_85 (St.i hm2) ?_
            refine V.top (b := (mI m1 668 3)) (by first | rfl | simp [mI_set, mI_setR]) ?_
            refine r_imul (y := m12_lay) dX12_lay_88 ?_
            refine r_iload_n (y := m12_lay) dX12_lay_89 rfl rfl ?_
            obtain ⟨hb58, h⟩ := h
            refine r_iast (y := m12_lay) (n := 960) dX12_lay_90 (sa_672 (St.i hm2)) hb58 ?_
            refine r_aload_n (y := m12_lay) dX12_lay_91 rfl rfl ?_
            refine g_X12_17 (y := m12_lay) rfl dX12_lay_92 (St.i (St.i hm2)) ?_
            refine r_aload_n (y := m12_lay) dX12_lay_95 rfl rfl ?_
            refine g_X12_158 (y := m12_lay) rfl dX12_lay_96 (St.i (St.i hm2)) ?_
            refine V.top (b := (mI m1 668 3)) (by first | rfl | simp [mI_set, mI_setR]) ?_
            refine r_iconst (y := m12_lay) (v := 1) dX12_lay_99 (by decide) ?_
            obtain ⟨hb59, h⟩ := h
            refine r_iast (y := m12_lay) (n := 80) dX12_lay_100 (sa_671 (St.i (St.i hm2))) hb59 ?_
            refine r_iload (y := m12_lay) dX12_lay_101 rfl ?_
            refine r_if_le (y := m12_lay) (tgt := 111) dX12_lay_103 (by decide) (fun hc60 => ?_) (fun hc60 => ?_)
            · have h := h.1 hc60
              exact h
            · have h := h.2 hc60
              refine r_aload_n (y := m12_lay) dX12_lay_106 rfl rfl ?_
              refine r_iload_n (y := m12_lay) dX12_lay_107 rfl rfl ?_
              refine r_callV (y := m12_lay) (As := [(.int a1)]) (b := 668) (ci := 12) dX12_lay_108 rfl k12_adds lm_X12_165 rfl ⟨by decide, by decide⟩ (so_668 (St.i (St.i (St.i hm2)))) (by decide) rfl (Nat.le_of_ble_eq_true rfl) (C.mono h ?_)
              rintro _ m61 ⟨rfl, hm62, h⟩
              refine ⟨none, rfl, ?_⟩
              exact h
          · have h := h.2 hc57
            refine r_iconst (y := m12_lay) (v := 0) dX12_lay_76 (by decide) ?_
            exact r_iret (y := m12_lay) dX12_lay_77 rfl rfl h
        · have h := h.2 hc56
          refine r_iload (y := m12_lay) dX12_lay_60 rfl ?_
          refine r_goto (y := m12_lay) (tgt := 66) dX12_lay_62 (by decide) ?_
          refine p_X12_147 (y := m12_lay) rfl dX12_lay_66 hm2 ?_
          refine r_aload_n (y := m12_lay) dX12_lay_69 rfl rfl ?_
          refine g_X12_147 (y := m12_lay) rfl dX12_lay_70 (St.i hm2) ?_
          refine V.top (b := a3) (by first | rfl | simp [mI_set, mI_setR]) ?_
          refine r_if_le (y := m12_lay) (tgt := 78) dX12_lay_73 (by decide) (fun hc63 => ?_) (fun hc63 => ?_)
          · have h := h.1 hc63
            refine r_aload_n (y := m12_lay) dX12_lay_78 rfl rfl ?_
            refine g_X12_20 (y := m12_lay) rfl dX12_lay_79 (St.i hm2) ?_
            refine r_bipush (y := m12_lay) (v := 12) dX12_lay_82 (by decide) ?_
            refine r_aload_n (y := m12_lay) dX12_lay_84 rfl rfl ?_
            refine g_X12_158 (y := m12_lay) rfl dX12_lay_85 (St.i hm2) ?_
            refine V.top (b := (mI m1 668 3)) (by first | rfl | simp [mI_set, mI_setR]) ?_
            refine r_imul (y := m12_lay) dX12_lay_88 ?_
            refine r_iload_n (y := m12_lay) dX12_lay_89 rfl rfl ?_
            obtain ⟨hb64, h⟩ := h
            refine r_iast (y := m12_lay) (n := 960) dX12_lay_90 (sa_672 (St.i hm2)) hb64 ?_
            refine r_aload_n (y := m12_lay) dX12_lay_91 rfl rfl ?_
            refine g_X12_17 (y := m12_lay) rfl dX12_lay_92 (St.i (St.i hm2)) ?_
            refine r_aload_n (y := m12_lay) dX12_lay_95 rfl rfl ?_
            refine g_X12_158 (y := m12_lay) rfl dX12_lay_96 (St.i (St.i hm2)) ?_
            refine V.top (b := (mI m1 668 3)) (by first | rfl | simp [mI_set, mI_setR]) ?_
            refine r_iconst (y := m12_lay) (v := 1) dX12_lay_99 (by decide) ?_
            obtain ⟨hb65, h⟩ := h
            refine r_iast (y := m12_lay) (n := 80) dX12_lay_100 (sa_671 (St.i (St.i hm2))) hb65 ?_
            refine r_iload (y := m12_lay) dX12_lay_101 rfl ?_
            refine r_if_le (y := m12_lay) (tgt := 111) dX12_lay_103 (by decide) (fun hc66 => ?_) (fun hc66 => ?_)
            · have h := h.1 hc66
              exact h
            · have h := h.2 hc66
              refine r_aload_n (y := m12_lay) dX12_lay_106 rfl rfl ?_
              refine r_iload_n (y := m12_lay) dX12_lay_107 rfl rfl ?_
              refine r_callV (y := m12_lay) (As := [(.int a1)]) (b := 668) (ci := 12) dX12_lay_108 rfl k12_adds lm_X12_165 rfl ⟨by decide, by decide⟩ (so_668 (St.i (St.i (St.i hm2)))) (by decide) rfl (Nat.le_of_ble_eq_true rfl) (C.mono h ?_)
              rintro _ m67 ⟨rfl, hm68, h⟩
              refine ⟨none, rfl, ?_⟩
              exact h
          · have h := h.2 hc63
            refine r_iconst (y := m12_lay) (v := 0) dX12_lay_76 (by decide) ?_
            exact r_iret (y := m12_lay) dX12_lay_77 rfl rfl h
    · have h := h.2 hc48
      refine r_aload_n (y := m12_lay) dX12_lay_30 rfl rfl ?_
      refine g_X12_17 (y := m12_lay) rfl dX12_lay_31 hm2 ?_
      refine r_iload_n (y := m12_lay) dX12_lay_34 rfl rfl ?_
      obtain ⟨hb69, h⟩ := h
      refine r_iald (y := m12_lay) (n := 80) dX12_lay_35 (sa_671 hm2) hb69 ?_
      refine r_goto (y := m12_lay) (tgt := 40) dX12_lay_36 (by decide) ?_
      refine r_iadd (y := m12_lay) dX12_lay_40 ?_
      refine r_istore (y := m12_lay) (L' := [some (.ref 668), some (.int a0), some (.int a1), some (.int a2), some (.int a3), some (.int x3), some (.int ((1 + (mI m1 671 (Int32.toNatClampNeg a1))) + (mI m1 671 (Int32.toNatClampNeg a2))))]) dX12_lay_41 (Nat.le_of_ble_eq_true rfl) rfl ?_
      refine r_aload_n (y := m12_lay) dX12_lay_43 rfl rfl ?_
      refine r_aload_n (y := m12_lay) dX12_lay_44 rfl rfl ?_
      refine g_X12_158 (y := m12_lay) rfl dX12_lay_45 hm2 ?_
      refine r_bipush (y := m12_lay) (v := 80) dX12_lay_48 (by decide) ?_
      refine r_icmp_eq (y := m12_lay) (tgt := 60) dX12_lay_50 (by decide) (fun hc70 => ?_) (fun hc70 => ?_)
      · have h := h.1 hc70
        refine r_iload (y := m12_lay) dX12_lay_60 rfl ?_
        refine r_goto (y := m12_lay) (tgt := 66) dX12_lay_62 (by decide) ?_
        refine p_X12_147 (y := m12_lay) rfl dX12_lay_66 hm2 ?_
        refine r_aload_n (y := m12_lay) dX12_lay_69 rfl rfl ?_
        refine g_X12_147 (y := m12_lay) rfl dX12_lay_70 (St.i hm2) ?_
        refine V.top (b := a3) (by first | rfl | simp [mI_set, mI_setR]) ?_
        refine r_if_le (y := m12_lay) (tgt := 78) dX12_lay_73 (by decide) (fun hc71 => ?_) (fun hc71 => ?_)
        · have h := h.1 hc71
          refine r_aload_n (y := m12_lay) dX12_lay_78 rfl rfl ?_
          refine g_X12_20 (y := m12_lay) rfl dX12_lay_79 (St.i hm2) ?_
          refine r_bipush (y := m12_lay) (v := 12) dX12_lay_82 (by decide) ?_
          refine r_aload_n (y := m12_lay) dX12_lay_84 rfl rfl ?_
          refine g_X12_158 (y := m12_lay) rfl dX12_lay_85 (St.i hm2) ?_
          refine V.top (b := (mI m1 668 3)) (by first | rfl | simp [mI_set, mI_setR]) ?_
          refine r_imul (y := m12_lay) dX12_lay_88 ?_
          refine r_iload_n (y := m12_lay) dX12_lay_89 rfl rfl ?_
          obtain ⟨hb72, h⟩ := h
          refine r_iast (y := m12_lay) (n := 960) dX12_lay_90 (sa_672 (St.i hm2)) hb72 ?_
          refine r_aload_n (y := m12_lay) dX12_lay_91 rfl rfl ?_
          refine g_X12_17 (y := m12_lay) rfl dX12_lay_92 (St.i (St.i hm2)) ?_
          refine r_aload_n (y := m12_lay) dX12_lay_95 rfl rfl ?_
          refine g_X12_158 (y := m12_lay) rfl dX12_lay_96 (St.i (St.i hm2)) ?_
          refine V.top (b := (mI m1 668 3)) (by first | rfl | simp [mI_set, mI_setR]) ?_
          refine r_iconst (y := m12_lay) (v := 1) dX12_lay_99 (by decide) ?_
          obtain ⟨hb73, h⟩ := h
          refine r_iast (y := m12_lay) (n := 80) dX12_lay_100 (sa_671 (St.i (St.i hm2))) hb73 ?_
          refine r_iload (y := m12_lay) dX12_lay_101 rfl ?_
          refine r_if_le (y := m12_lay) (tgt := 111) dX12_lay_103 (by decide) (fun hc74 => ?_) (fun hc74 => ?_)
          · have h := h.1 hc74
            exact h
          · have h := h.2 hc74
            refine r_aload_n (y := m12_lay) dX12_lay_106 rfl rfl ?_
            refine r_iload_n (y := m12_lay) dX12_lay_107 rfl rfl ?_
            refine r_callV (y := m12_lay) (As := [(.int a1)]) (b := 668) (ci := 12) dX12_lay_108 rfl k12_adds lm_X12_165 rfl ⟨by decide, by decide⟩ (so_668 (St.i (St.i (St.i hm2)))) (by decide) rfl (Nat.le_of_ble_eq_true rfl) (C.mono h ?_)
            rintro _ m75 ⟨rfl, hm76, h⟩
            refine ⟨none, rfl, ?_⟩
            exact h
        · have h := h.2 hc71
          refine r_iconst (y := m12_lay) (v := 0) dX12_lay_76 (by decide) ?_
          exact r_iret (y := m12_lay) dX12_lay_77 rfl rfl h
      · have h := h.2 hc70
        refine r_iload (y := m12_lay) dX12_lay_53 rfl ?_
        refine r_bipush (y := m12_lay) (v := 12) dX12_lay_55 (by decide) ?_
        refine r_icmp_le (y := m12_lay) (tgt := 65) dX12_lay_57 (by decide) (fun hc77 => ?_) (fun hc77 => ?_)
        · have h := h.1 hc77
          refine r_iconst (y := m12_lay) (v := 0) dX12_lay_65 (by decide) ?_
          refine p_X12_147 (y := m12_lay) rfl dX12_lay_66 hm2 ?_
          refine r_aload_n (y := m12_lay) dX12_lay_69 rfl rfl ?_
          refine g_X12_147 (y := m12_lay) rfl dX12_lay_70 (St.i hm2) ?_
          refine V.top (b := 0) (by first | rfl | simp [mI_set, mI_setR]) ?_
          refine r_if_le (y := m12_lay) (tgt := 78) dX12_lay_73 (by decide) (fun hc78 => ?_) (fun hc78 => ?_)
          · have h := h.1 hc78
            refine r_aload_n (y := m12_lay) dX12_lay_78 rfl rfl ?_
            refine g_X12_20 (y := m12_lay) rfl dX12_lay_79 (St.i hm2) ?_
            refine r_bipush (y := m12_lay) (v := 12) dX12_lay_82 (by decide) ?_
            refine r_aload_n (y := m12_lay) dX12_lay_84 rfl rfl ?_
            refine g_X12_158 (y := m12_lay) rfl dX12_lay_85 (St.i hm2) ?_
            refine V.top (b := (mI m1 668 3)) (by first | rfl | simp [mI_set, mI_setR]) ?_
            refine r_imul (y := m12_lay) dX12_lay_88 ?_
            refine r_iload_n (y := m12_lay) dX12_lay_89 rfl rfl ?_
            obtain ⟨hb79, h⟩ := h
            refine r_iast (y := m12_lay) (n := 960) dX12_lay_90 (sa_672 (St.i hm2)) hb79 ?_
            refine r_aload_n (y := m12_lay) dX12_lay_91 rfl rfl ?_
            refine g_X12_17 (y := m12_lay) rfl dX12_lay_92 (St.i (St.i hm2)) ?_
            refine r_aload_n (y := m12_lay) dX12_lay_95 rfl rfl ?_
            refine g_X12_158 (y := m12_lay) rfl dX12_lay_96 (St.i (St.i hm2)) ?_
            refine V.top (b := (mI m1 668 3)) (by first | rfl | simp [mI_set, mI_setR]) ?_
            refine r_iconst (y := m12_lay) (v := 1) dX12_lay_99 (by decide) ?_
            obtain ⟨hb80, h⟩ := h
            refine r_iast (y := m12_lay) (n := 80) dX12_lay_100 (sa_671 (St.i (St.i hm2))) hb80 ?_
            refine r_iload (y := m12_lay) dX12_lay_101 rfl ?_
            refine r_if_le (y := m12_lay) (tgt := 111) dX12_lay_103 (by decide) (fun hc81 => ?_) (fun hc81 => ?_)
            · have h := h.1 hc81
              exact h
            · have h := h.2 hc81
              refine r_aload_n (y := m12_lay) dX12_lay_106 rfl rfl ?_
              refine r_iload_n (y := m12_lay) dX12_lay_107 rfl rfl ?_
              refine r_callV (y := m12_lay) (As := [(.int a1)]) (b := 668) (ci := 12) dX12_lay_108 rfl k12_adds lm_X12_165 rfl ⟨by decide, by decide⟩ (so_668 (St.i (St.i (St.i hm2)))) (by decide) rfl (Nat.le_of_ble_eq_true rfl) (C.mono h ?_)
              rintro _ m82 ⟨rfl, hm83, h⟩
              refine ⟨none, rfl, ?_⟩
              exact h
          · have h := h.2 hc78
            refine r_iconst (y := m12_lay) (v := 0) dX12_lay_76 (by decide) ?_
            exact r_iret (y := m12_lay) dX12_lay_77 rfl rfl h
        · have h := h.2 hc77
          refine r_iload (y := m12_lay) dX12_lay_60 rfl ?_
          refine r_goto (y := m12_lay) (tgt := 66) dX12_lay_62 (by decide) ?_
          refine p_X12_147 (y := m12_lay) rfl dX12_lay_66 hm2 ?_
          refine r_aload_n (y := m12_lay) dX12_lay_69 rfl rfl ?_
          refine g_X12_147 (y := m12_lay) rfl dX12_lay_70 (St.i hm2) ?_
          refine V.top (b := a3) (by first | rfl | simp [mI_set, mI_setR]) ?_
          refine r_if_le (y := m12_lay) (tgt := 78) dX12_lay_73 (by decide) (fun hc84 => ?_) (fun hc84 => ?_)
          · have h := h.1 hc84
            refine r_aload_n (y := m12_lay) dX12_lay_78 rfl rfl ?_
            refine g_X12_20 (y := m12_lay) rfl dX12_lay_79 (St.i hm2) ?_
            refine r_bipush (y := m12_lay) (v := 12) dX12_lay_82 (by decide) ?_
            refine r_aload_n (y := m12_lay) dX12_lay_84 rfl rfl ?_
            refine g_X12_158 (y := m12_lay) rfl dX12_lay_85 (St.i hm2) ?_
            refine V.top (b := (mI m1 668 3)) (by first | rfl | simp [mI_set, mI_setR]) ?_
            refine r_imul (y := m12_lay) dX12_lay_88 ?_
            refine r_iload_n (y := m12_lay) dX12_lay_89 rfl rfl ?_
            obtain ⟨hb85, h⟩ := h
            refine r_iast (y := m12_lay) (n := 960) dX12_lay_90 (sa_672 (St.i hm2)) hb85 ?_
            refine r_aload_n (y := m12_lay) dX12_lay_91 rfl rfl ?_
            refine g_X12_17 (y := m12_lay) rfl dX12_lay_92 (St.i (St.i hm2)) ?_
            refine r_aload_n (y := m12_lay) dX12_lay_95 rfl rfl ?_
            refine g_X12_158 (y := m12_lay) rfl dX12_lay_96 (St.i (St.i hm2)) ?_
            refine V.top (b := (mI m1 668 3)) (by first | rfl | simp [mI_set, mI_setR]) ?_
            refine r_iconst (y := m12_lay) (v := 1) dX12_lay_99 (by decide) ?_
            obtain ⟨hb86, h⟩ := h
            refine r_iast (y := m12_lay) (n := 80) dX12_lay_100 (sa_671 (St.i (St.i hm2))) hb86 ?_
            refine r_iload (y := m12_lay) dX12_lay_101 rfl ?_
            refine r_if_le (y := m12_lay) (tgt := 111) dX12_lay_103 (by decide) (fun hc87 => ?_) (fun hc87 => ?_)
            · have h := h.1 hc87
              exact h
            · have h := h.2 hc87
              refine r_aload_n (y := m12_lay) dX12_lay_106 rfl rfl ?_
              refine r_iload_n (y := m12_lay) dX12_lay_107 rfl rfl ?_
              refine r_callV (y := m12_lay) (As := [(.int a1)]) (b := 668) (ci := 12) dX12_lay_108 rfl k12_adds lm_X12_165 rfl ⟨by decide, by decide⟩ (so_668 (St.i (St.i (St.i hm2)))) (by decide) rfl (Nat.le_of_ble_eq_true rfl) (C.mono h ?_)
              rintro _ m88 ⟨rfl, hm89, h⟩
              refine ⟨none, rfl, ?_⟩
              exact h
          · have h := h.2 hc84
            refine r_iconst (y := m12_lay) (v := 0) dX12_lay_76 (by decide) ?_
            exact r_iret (y := m12_lay) dX12_lay_77 rfl rfl h
set_option maxHeartbeats 4000000 in
set_option maxRecDepth 100000 in
theorem w12_lay_111 {m : Mm} {K : Option Value ⊕ String → Mm → Prop} (hm : St m) {v1 : Int32} {v2 : Int32} {v3 : Int32} {v4 : Int32} {v5 : Int32} {v6 : Int32}  (h : ((v5 ≤ 1 → V m12_lay 122 [some (.ref 668), some (.int v1), some (.int v2), some (.int v3), some (.int v4), some (.int v5), some (.int v6)] [] m K) ∧ (¬ v5 ≤ 1 → C m12_adds [(.ref 668), (.int v3)] m (fun o m2 => o = .inl none ∧ St m2 ∧ V m12_lay 122 [some (.ref 668), some (.int v1), some (.int v2), some (.int v3), some (.int v4), some (.int v5), some (.int v6)] [] m2 K)))) : V m12_lay 111 [some (.ref 668), some (.int v1), some (.int v2), some (.int v3), some (.int v4), some (.int v5), some (.int v6)] [] m K := by
  refine r_iload (y := m12_lay) dX12_lay_111 rfl ?_
  refine r_iconst (y := m12_lay) (v := 1) dX12_lay_113 (by decide) ?_
  refine r_icmp_le (y := m12_lay) (tgt := 122) dX12_lay_114 (by decide) (fun hc1 => ?_) (fun hc1 => ?_)
  · have h := h.1 hc1
    exact h
  · have h := h.2 hc1
    refine r_aload_n (y := m12_lay) dX12_lay_117 rfl rfl ?_
    refine r_iload_n (y := m12_lay) dX12_lay_118 rfl rfl ?_
    refine r_callV (y := m12_lay) (As := [(.int v3)]) (b := 668) (ci := 12) dX12_lay_119 rfl k12_adds lm_X12_165 rfl ⟨by decide, by decide⟩ (so_668 hm) (by decide) rfl (Nat.le_of_ble_eq_true rfl) (C.mono h ?_)
    rintro _ m2 ⟨rfl, hm3, h⟩
    refine ⟨none, rfl, ?_⟩
    exact h
set_option maxHeartbeats 4000000 in
set_option maxRecDepth 100000 in
theorem w12_lay_122 {m : Mm} {K : Option Value ⊕ String → Mm → Prop} (hm : St m) {v1 : Int32} {v2 : Int32} {v3 : Int32} {v4 : Int32} {v5 : Int32} {v6 : Int32}  (h : K (.inl (some (.int (((mI m 668 3) + 1) - 1)))) (mSetI m 668 3 ((mI m 668 3) + 1))) : V m12_lay 122 [some (.ref 668), some (.int v1), some (.int v2), some (.int v3), some (.int v4), some (.int v5), some (.int v6)] [] m K := by
  refine r_aload_n (y := m12_lay) dX12_lay_122 rfl rfl ?_
  refine r_dup_r (y := m12_lay) dX12_lay_123 ?_
  refine g_X12_158 (y := m12_lay) rfl dX12_lay_124 hm ?_
  refine r_iconst (y := m12_lay) (v := 1) dX12_lay_127 (by decide) ?_
  refine r_iadd (y := m12_lay) dX12_lay_128 ?_
  refine p_X12_158 (y := m12_lay) rfl dX12_lay_129 hm ?_
  refine r_aload_n (y := m12_lay) dX12_lay_132 rfl rfl ?_
  refine g_X12_158 (y := m12_lay) rfl dX12_lay_133 (St.i hm) ?_
  refine V.top (b := ((mI m 668 3) + 1)) (by first | rfl | simp [mI_set, mI_setR]) ?_
  refine r_iconst (y := m12_lay) (v := 1) dX12_lay_136 (by decide) ?_
  refine r_isub (y := m12_lay) dX12_lay_137 ?_
  exact r_iret (y := m12_lay) dX12_lay_138 rfl rfl h
set_option maxHeartbeats 4000000 in
set_option maxRecDepth 100000 in
theorem w12_areParts {m : Mm} {K : Option Value ⊕ String → Mm → Prop} (hm : St m) {a0 : Int32} {a1 : Int32} {a2 : Int32}  (h : ((a0 < 1 → ((a0 < 2 → K (.inl (some (.int 1))) m) ∧ (¬ a0 < 2 → C m12_isNode [(.ref 668), (.int a2)] m (fun o m3 => ∃ x5 : Int32, o = .inl (some (.int x5)) ∧ St m3 ∧ ((x5 = 0 → K (.inl (some (.int 0))) m3) ∧ (¬ x5 = 0 → K (.inl (some (.int 1))) m3)))))) ∧ (¬ a0 < 1 → C m12_isNode [(.ref 668), (.int a1)] m (fun o m7 => ∃ x9 : Int32, o = .inl (some (.int x9)) ∧ St m7 ∧ ((x9 = 0 → K (.inl (some (.int 0))) m7) ∧ (¬ x9 = 0 → ((a0 < 2 → K (.inl (some (.int 1))) m7) ∧ (¬ a0 < 2 → C m12_isNode [(.ref 668), (.int a2)] m7 (fun o m12 => ∃ x14 : Int32, o = .inl (some (.int x14)) ∧ St m12 ∧ ((x14 = 0 → K (.inl (some (.int 0))) m12) ∧ (¬ x14 = 0 → K (.inl (some (.int 1))) m12))))))))))) : V m12_areParts 0 [some (.ref 668), some (.int a0), some (.int a1), some (.int a2)] [] m K := by
  refine r_iload_n (y := m12_areParts) dX12_areParts_0 rfl rfl ?_
  refine r_iconst (y := m12_areParts) (v := 1) dX12_areParts_1 (by decide) ?_
  refine r_icmp_lt (y := m12_areParts) (tgt := 13) dX12_areParts_2 (by decide) (fun hc1 => ?_) (fun hc1 => ?_)
  · have h := h.1 hc1
    refine r_iload_n (y := m12_areParts) dX12_areParts_13 rfl rfl ?_
    refine r_iconst (y := m12_areParts) (v := 2) dX12_areParts_14 (by decide) ?_
    refine r_icmp_lt (y := m12_areParts) (tgt := 26) dX12_areParts_15 (by decide) (fun hc2 => ?_) (fun hc2 => ?_)
    · have h := h.1 hc2
      refine r_iconst (y := m12_areParts) (v := 1) dX12_areParts_26 (by decide) ?_
      refine r_goto (y := m12_areParts) (tgt := 31) dX12_areParts_27 (by decide) ?_
      exact r_iret (y := m12_areParts) (ty := .boolean) dX12_areParts_31 rfl (by decide) h
    · have h := h.2 hc2
      refine r_aload_n (y := m12_areParts) dX12_areParts_18 rfl rfl ?_
      refine r_iload_n (y := m12_areParts) dX12_areParts_19 rfl rfl ?_
      refine r_callV (y := m12_areParts) (As := [(.int a2)]) (b := 668) (ci := 12) dX12_areParts_20 rfl k12_isNode lm_X12_169 rfl ⟨by decide, by decide⟩ (so_668 hm) (by decide) rfl (Nat.le_of_ble_eq_true rfl) (C.mono h ?_)
      rintro _ m3 ⟨x5, rfl, hm4, h⟩
      refine ⟨_, rfl, ?_⟩
      refine r_if_eq (y := m12_areParts) (tgt := 30) dX12_areParts_23 (by decide) (fun hc6 => ?_) (fun hc6 => ?_)
      · have h := h.1 hc6
        refine r_iconst (y := m12_areParts) (v := 0) dX12_areParts_30 (by decide) ?_
        exact r_iret (y := m12_areParts) (ty := .boolean) dX12_areParts_31 rfl (by decide) h
      · have h := h.2 hc6
        refine r_iconst (y := m12_areParts) (v := 1) dX12_areParts_26 (by decide) ?_
        refine r_goto (y := m12_areParts) (tgt := 31) dX12_areParts_27 (by decide) ?_
        exact r_iret (y := m12_areParts) (ty := .boolean) dX12_areParts_31 rfl (by decide) h
  · have h := h.2 hc1
    refine r_aload_n (y := m12_areParts) dX12_areParts_5 rfl rfl ?_
    refine r_iload_n (y := m12_areParts) dX12_areParts_6 rfl rfl ?_
    refine r_callV (y := m12_areParts) (As := [(.int a1)]) (b := 668) (ci := 12) dX12_areParts_7 rfl k12_isNode lm_X12_169 rfl ⟨by decide, by decide⟩ (so_668 hm) (by decide) rfl (Nat.le_of_ble_eq_true rfl) (C.mono h ?_)
    rintro _ m7 ⟨x9, rfl, hm8, h⟩
    refine ⟨_, rfl, ?_⟩
    refine r_if_eq (y := m12_areParts) (tgt := 30) dX12_areParts_10 (by decide) (fun hc10 => ?_) (fun hc10 => ?_)
    · have h := h.1 hc10
      refine r_iconst (y := m12_areParts) (v := 0) dX12_areParts_30 (by decide) ?_
      exact r_iret (y := m12_areParts) (ty := .boolean) dX12_areParts_31 rfl (by decide) h
    · have h := h.2 hc10
      refine r_iload_n (y := m12_areParts) dX12_areParts_13 rfl rfl ?_
      refine r_iconst (y := m12_areParts) (v := 2) dX12_areParts_14 (by decide) ?_
      refine r_icmp_lt (y := m12_areParts) (tgt := 26) dX12_areParts_15 (by decide) (fun hc11 => ?_) (fun hc11 => ?_)
      · have h := h.1 hc11
        refine r_iconst (y := m12_areParts) (v := 1) dX12_areParts_26 (by decide) ?_
        refine r_goto (y := m12_areParts) (tgt := 31) dX12_areParts_27 (by decide) ?_
        exact r_iret (y := m12_areParts) (ty := .boolean) dX12_areParts_31 rfl (by decide) h
      · have h := h.2 hc11
        refine r_aload_n (y := m12_areParts) dX12_areParts_18 rfl rfl ?_
        refine r_iload_n (y := m12_areParts) dX12_areParts_19 rfl rfl ?_
        refine r_callV (y := m12_areParts) (As := [(.int a2)]) (b := 668) (ci := 12) dX12_areParts_20 rfl k12_isNode lm_X12_169 rfl ⟨by decide, by decide⟩ (so_668 hm8) (by decide) rfl (Nat.le_of_ble_eq_true rfl) (C.mono h ?_)
        rintro _ m12 ⟨x14, rfl, hm13, h⟩
        refine ⟨_, rfl, ?_⟩
        refine r_if_eq (y := m12_areParts) (tgt := 30) dX12_areParts_23 (by decide) (fun hc15 => ?_) (fun hc15 => ?_)
        · have h := h.1 hc15
          refine r_iconst (y := m12_areParts) (v := 0) dX12_areParts_30 (by decide) ?_
          exact r_iret (y := m12_areParts) (ty := .boolean) dX12_areParts_31 rfl (by decide) h
        · have h := h.2 hc15
          refine r_iconst (y := m12_areParts) (v := 1) dX12_areParts_26 (by decide) ?_
          refine r_goto (y := m12_areParts) (tgt := 31) dX12_areParts_27 (by decide) ?_
          exact r_iret (y := m12_areParts) (ty := .boolean) dX12_areParts_31 rfl (by decide) h
set_option maxHeartbeats 4000000 in
set_option maxRecDepth 100000 in
theorem w12_name {m : Mm} {K : Option Value ⊕ String → Mm → Prop} (hm : St m) {a0 : Int32}  (h : C m12_in [(.int a0), (.int 0), (.int 5)] m (fun o m1 => ∃ x3 : Int32, o = .inl (some (.int x3)) ∧ St m1 ∧ ((x3 = 0 → ((¬ (1 : Int32) = 0 → K (.inl (some (.int 0))) (mSetI m1 668 12 1)) ∧ ((1 : Int32) = 0 → C m12_lay [(.ref 668), (.int a0), (.int 0), (.int 0), (.int 2)] (mSetI m1 668 12 1) (fun o m6 => ∃ x8 : Int32, o = .inl (some (.int x8)) ∧ St m6 ∧ K (.inl (some (.int x8))) m6)))) ∧ (¬ x3 = 0 → ((¬ (0 : Int32) = 0 → K (.inl (some (.int 0))) (mSetI m1 668 12 0)) ∧ ((0 : Int32) = 0 → C m12_lay [(.ref 668), (.int a0), (.int 0), (.int 0), (.int 2)] (mSetI m1 668 12 0) (fun o m10 => ∃ x12 : Int32, o = .inl (some (.int x12)) ∧ St m10 ∧ K (.inl (some (.int x12))) m10))))))) : V m12_name 0 [some (.ref 668), some (.int a0)] [] m K := by
  refine r_aload_n (y := m12_name) dX12_name_0 rfl rfl ?_
  refine r_iload_n (y := m12_name) dX12_name_1 rfl rfl ?_
  refine r_iconst (y := m12_name) (v := 0) dX12_name_2 (by decide) ?_
  refine r_iconst (y := m12_name) (v := 5) dX12_name_3 (by decide) ?_
  refine r_callS (y := m12_name) (As := [(.int a0), (.int 0), (.int 5)]) dX12_name_4 rfl k12_in lm_X12_154 rfl ⟨by decide, by decide⟩ (Nat.le_of_ble_eq_true rfl) (C.mono h ?_)
  rintro _ m1 ⟨x3, rfl, hm2, h⟩
  refine ⟨_, rfl, ?_⟩
  refine r_if_eq (y := m12_name) (tgt := 14) dX12_name_7 (by decide) (fun hc4 => ?_) (fun hc4 => ?_)
  · have h := h.1 hc4
    refine r_iconst (y := m12_name) (v := 1) dX12_name_14 (by decide) ?_
    refine p_X12_147 (y := m12_name) rfl dX12_name_15 hm2 ?_
    refine r_aload_n (y := m12_name) dX12_name_18 rfl rfl ?_
    refine g_X12_147 (y := m12_name) rfl dX12_name_19 (St.i hm2) ?_
    refine V.top (b := 1) (by first | rfl | simp [mI_set, mI_setR]) ?_
    refine r_if_ne (y := m12_name) (tgt := 36) dX12_name_22 (by decide) (fun hc5 => ?_) (fun hc5 => ?_)
    · have h := h.1 hc5
      refine r_iconst (y := m12_name) (v := 0) dX12_name_36 (by decide) ?_
      exact r_iret (y := m12_name) dX12_name_37 rfl rfl h
    · have h := h.2 hc5
      refine r_aload_n (y := m12_name) dX12_name_25 rfl rfl ?_
      refine r_iload_n (y := m12_name) dX12_name_26 rfl rfl ?_
      refine r_iconst (y := m12_name) (v := 0) dX12_name_27 (by decide) ?_
      refine r_iconst (y := m12_name) (v := 0) dX12_name_28 (by decide) ?_
      refine r_iconst (y := m12_name) (v := 2) dX12_name_29 (by decide) ?_
      refine r_callV (y := m12_name) (As := [(.int a0), (.int 0), (.int 0), (.int 2)]) (b := 668) (ci := 12) dX12_name_30 rfl k12_lay lm_X12_173 rfl ⟨by decide, by decide⟩ (so_668 (St.i hm2)) (by decide) rfl (Nat.le_of_ble_eq_true rfl) (C.mono h ?_)
      rintro _ m6 ⟨x8, rfl, hm7, h⟩
      refine ⟨_, rfl, ?_⟩
      refine r_goto (y := m12_name) (tgt := 37) dX12_name_33 (by decide) ?_
      exact r_iret (y := m12_name) dX12_name_37 rfl rfl h
  · have h := h.2 hc4
    refine r_iconst (y := m12_name) (v := 0) dX12_name_10 (by decide) ?_
    refine r_goto (y := m12_name) (tgt := 15) dX12_name_11 (by decide) ?_
    refine p_X12_147 (y := m12_name) rfl dX12_name_15 hm2 ?_
    refine r_aload_n (y := m12_name) dX12_name_18 rfl rfl ?_
    refine g_X12_147 (y := m12_name) rfl dX12_name_19 (St.i hm2) ?_
    refine V.top (b := 0) (by first | rfl | simp [mI_set, mI_setR]) ?_
    refine r_if_ne (y := m12_name) (tgt := 36) dX12_name_22 (by decide) (fun hc9 => ?_) (fun hc9 => ?_)
    · have h := h.1 hc9
      refine r_iconst (y := m12_name) (v := 0) dX12_name_36 (by decide) ?_
      exact r_iret (y := m12_name) dX12_name_37 rfl rfl h
    · have h := h.2 hc9
      refine r_aload_n (y := m12_name) dX12_name_25 rfl rfl ?_
      refine r_iload_n (y := m12_name) dX12_name_26 rfl rfl ?_
      refine r_iconst (y := m12_name) (v := 0) dX12_name_27 (by decide) ?_
      refine r_iconst (y := m12_name) (v := 0) dX12_name_28 (by decide) ?_
      refine r_iconst (y := m12_name) (v := 2) dX12_name_29 (by decide) ?_
      refine r_callV (y := m12_name) (As := [(.int a0), (.int 0), (.int 0), (.int 2)]) (b := 668) (ci := 12) dX12_name_30 rfl k12_lay lm_X12_173 rfl ⟨by decide, by decide⟩ (so_668 (St.i hm2)) (by decide) rfl (Nat.le_of_ble_eq_true rfl) (C.mono h ?_)
      rintro _ m10 ⟨x12, rfl, hm11, h⟩
      refine ⟨_, rfl, ?_⟩
      refine r_goto (y := m12_name) (tgt := 37) dX12_name_33 (by decide) ?_
      exact r_iret (y := m12_name) dX12_name_37 rfl rfl h
set_option maxHeartbeats 4000000 in
set_option maxRecDepth 100000 in
theorem w12_data {m : Mm} {K : Option Value ⊕ String → Mm → Prop} (hm : St m) {a0 : Int32} {a1 : Int32} {a2 : Int32}  (h : C m12_in [(.int a0), (.int 0), (.int 5)] m (fun o m1 => ∃ x3 : Int32, o = .inl (some (.int x3)) ∧ St m1 ∧ ((x3 = 0 → ((¬ x3 = 0 → ((¬ (0 : Int32) = 0 → K (.inl (some (.int 0))) (mSetI m1 668 12 0)) ∧ ((0 : Int32) = 0 → C m12_lay [(.ref 668), (.int (10 + a0)), (.int a1), (.int a2), (.int 3)] (mSetI m1 668 12 0) (fun o m7 => ∃ x9 : Int32, o = .inl (some (.int x9)) ∧ St m7 ∧ K (.inl (some (.int x9))) m7)))) ∧ (x3 = 0 → ((¬ (2 : Int32) = 0 → K (.inl (some (.int 0))) (mSetI m1 668 12 2)) ∧ ((2 : Int32) = 0 → C m12_lay [(.ref 668), (.int (10 + a0)), (.int a1), (.int a2), (.int 3)] (mSetI m1 668 12 2) (fun o m11 => ∃ x13 : Int32, o = .inl (some (.int x13)) ∧ St m11 ∧ K (.inl (some (.int x13))) m11)))))) ∧ (¬ x3 = 0 → C m12_areParts [(.ref 668), (.int (a0 / 2)), (.int a1), (.int a2)] m1 (fun o m14 => ∃ x16 : Int32, o = .inl (some (.int x16)) ∧ St m14 ∧ ((¬ x16 = 0 → ((¬ x3 = 0 → ((¬ (0 : Int32) = 0 → K (.inl (some (.int 0))) (mSetI m14 668 12 0)) ∧ ((0 : Int32) = 0 → C m12_lay [(.ref 668), (.int (10 + a0)), (.int a1), (.int a2), (.int 3)] (mSetI m14 668 12 0) (fun o m20 => ∃ x22 : Int32, o = .inl (some (.int x22)) ∧ St m20 ∧ K (.inl (some (.int x22))) m20)))) ∧ (x3 = 0 → ((¬ (2 : Int32) = 0 → K (.inl (some (.int 0))) (mSetI m14 668 12 2)) ∧ ((2 : Int32) = 0 → C m12_lay [(.ref 668), (.int (10 + a0)), (.int a1), (.int a2), (.int 3)] (mSetI m14 668 12 2) (fun o m24 => ∃ x26 : Int32, o = .inl (some (.int x26)) ∧ St m24 ∧ K (.inl (some (.int x26))) m24)))))) ∧ (x16 = 0 → ((¬ (1 : Int32) = 0 → K (.inl (some (.int 0))) (mSetI m14 668 12 1)) ∧ ((1 : Int32) = 0 → C m12_lay [(.ref 668), (.int (10 + a0)), (.int a1), (.int a2), (.int 3)] (mSetI m14 668 12 1) (fun o m28 => ∃ x30 : Int32, o = .inl (some (.int x30)) ∧ St m28 ∧ K (.inl (some (.int x30))) m28)))))))))) : V m12_data 0 [some (.ref 668), some (.int a0), some (.int a1), some (.int a2), none] [] m K := by
  refine r_iload_n (y := m12_data) dX12_data_0 rfl rfl ?_
  refine r_iconst (y := m12_data) (v := 0) dX12_data_1 (by decide) ?_
  refine r_iconst (y := m12_data) (v := 5) dX12_data_2 (by decide) ?_
  refine r_callS (y := m12_data) (As := [(.int a0), (.int 0), (.int 5)]) dX12_data_3 rfl k12_in lm_X12_154 rfl ⟨by decide, by decide⟩ (Nat.le_of_ble_eq_true rfl) (C.mono h ?_)
  rintro _ m1 ⟨x3, rfl, hm2, h⟩
  refine ⟨_, rfl, ?_⟩
  refine r_istore (y := m12_data) (L' := [some (.ref 668), some (.int a0), some (.int a1), some (.int a2), some (.int x3)]) dX12_data_6 (Nat.le_of_ble_eq_true rfl) rfl ?_
  refine r_aload_n (y := m12_data) dX12_data_8 rfl rfl ?_
  refine r_iload (y := m12_data) dX12_data_9 rfl ?_
  refine r_if_eq (y := m12_data) (tgt := 30) dX12_data_11 (by decide) (fun hc4 => ?_) (fun hc4 => ?_)
  · have h := h.1 hc4
    refine r_iload (y := m12_data) dX12_data_30 rfl ?_
    refine r_if_ne (y := m12_data) (tgt := 39) dX12_data_32 (by decide) (fun hc5 => ?_) (fun hc5 => ?_)
    · have h := h.1 hc5
      refine r_iconst (y := m12_data) (v := 0) dX12_data_39 (by decide) ?_
      refine p_X12_147 (y := m12_data) rfl dX12_data_40 hm2 ?_
      refine r_aload_n (y := m12_data) dX12_data_43 rfl rfl ?_
      refine g_X12_147 (y := m12_data) rfl dX12_data_44 (St.i hm2) ?_
      refine V.top (b := 0) (by first | rfl | simp [mI_set, mI_setR]) ?_
      refine r_if_ne (y := m12_data) (tgt := 64) dX12_data_47 (by decide) (fun hc6 => ?_) (fun hc6 => ?_)
      · have h := h.1 hc6
        refine r_iconst (y := m12_data) (v := 0) dX12_data_64 (by decide) ?_
        exact r_iret (y := m12_data) dX12_data_65 rfl rfl h
      · have h := h.2 hc6
        refine r_aload_n (y := m12_data) dX12_data_50 rfl rfl ?_
        refine r_bipush (y := m12_data) (v := 10) dX12_data_51 (by decide) ?_
        refine r_iload_n (y := m12_data) dX12_data_53 rfl rfl ?_
        refine r_iadd (y := m12_data) dX12_data_54 ?_
        refine r_iload_n (y := m12_data) dX12_data_55 rfl rfl ?_
        refine r_iload_n (y := m12_data) dX12_data_56 rfl rfl ?_
        refine r_iconst (y := m12_data) (v := 3) dX12_data_57 (by decide) ?_
        refine r_callV (y := m12_data) (As := [(.int (10 + a0)), (.int a1), (.int a2), (.int 3)]) (b := 668) (ci := 12) dX12_data_58 rfl k12_lay lm_X12_173 rfl ⟨by decide, by decide⟩ (so_668 (St.i hm2)) (by decide) rfl (Nat.le_of_ble_eq_true rfl) (C.mono h ?_)
        rintro _ m7 ⟨x9, rfl, hm8, h⟩
        refine ⟨_, rfl, ?_⟩
        refine r_goto (y := m12_data) (tgt := 65) dX12_data_61 (by decide) ?_
        exact r_iret (y := m12_data) dX12_data_65 rfl rfl h
    · have h := h.2 hc5
      refine r_iconst (y := m12_data) (v := 2) dX12_data_35 (by decide) ?_
      refine r_goto (y := m12_data) (tgt := 40) dX12_data_36 (by decide) ?_
      refine p_X12_147 (y := m12_data) rfl dX12_data_40 hm2 ?_
      refine r_aload_n (y := m12_data) dX12_data_43 rfl rfl ?_
      refine g_X12_147 (y := m12_data) rfl dX12_data_44 (St.i hm2) ?_
      refine V.top (b := 2) (by first | rfl | simp [mI_set, mI_setR]) ?_
      refine r_if_ne (y := m12_data) (tgt := 64) dX12_data_47 (by decide) (fun hc10 => ?_) (fun hc10 => ?_)
      · have h := h.1 hc10
        refine r_iconst (y := m12_data) (v := 0) dX12_data_64 (by decide) ?_
        exact r_iret (y := m12_data) dX12_data_65 rfl rfl h
      · have h := h.2 hc10
        refine r_aload_n (y := m12_data) dX12_data_50 rfl rfl ?_
        refine r_bipush (y := m12_data) (v := 10) dX12_data_51 (by decide) ?_
        refine r_iload_n (y := m12_data) dX12_data_53 rfl rfl ?_
        refine r_iadd (y := m12_data) dX12_data_54 ?_
        refine r_iload_n (y := m12_data) dX12_data_55 rfl rfl ?_
        refine r_iload_n (y := m12_data) dX12_data_56 rfl rfl ?_
        refine r_iconst (y := m12_data) (v := 3) dX12_data_57 (by decide) ?_
        refine r_callV (y := m12_data) (As := [(.int (10 + a0)), (.int a1), (.int a2), (.int 3)]) (b := 668) (ci := 12) dX12_data_58 rfl k12_lay lm_X12_173 rfl ⟨by decide, by decide⟩ (so_668 (St.i hm2)) (by decide) rfl (Nat.le_of_ble_eq_true rfl) (C.mono h ?_)
        rintro _ m11 ⟨x13, rfl, hm12, h⟩
        refine ⟨_, rfl, ?_⟩
        refine r_goto (y := m12_data) (tgt := 65) dX12_data_61 (by decide) ?_
        exact r_iret (y := m12_data) dX12_data_65 rfl rfl h
  · have h := h.2 hc4
    refine r_aload_n (y := m12_data) dX12_data_14 rfl rfl ?_
    refine r_iload_n (y := m12_data) dX12_data_15 rfl rfl ?_
    refine r_iconst (y := m12_data) (v := 2) dX12_data_16 (by decide) ?_
    refine r_idiv (y := m12_data) dX12_data_17 (by decide) ?_
    refine r_iload_n (y := m12_data) dX12_data_18 rfl rfl ?_
    refine r_iload_n (y := m12_data) dX12_data_19 rfl rfl ?_
    refine r_callV (y := m12_data) (As := [(.int (a0 / 2)), (.int a1), (.int a2)]) (b := 668) (ci := 12) dX12_data_20 rfl k12_areParts lm_X12_177 rfl ⟨by decide, by decide⟩ (so_668 hm2) (by decide) rfl (Nat.le_of_ble_eq_true rfl) (C.mono h ?_)
    rintro _ m14 ⟨x16, rfl, hm15, h⟩
    refine ⟨_, rfl, ?_⟩
    refine r_if_ne (y := m12_data) (tgt := 30) dX12_data_23 (by decide) (fun hc17 => ?_) (fun hc17 => ?_)
    · have h := h.1 hc17
      refine r_iload (y := m12_data) dX12_data_30 rfl ?_
      refine r_if_ne (y := m12_data) (tgt := 39) dX12_data_32 (by decide) (fun hc18 => ?_) (fun hc18 => ?_)
      · have h := h.1 hc18
        refine r_iconst (y := m12_data) (v := 0) dX12_data_39 (by decide) ?_
        refine p_X12_147 (y := m12_data) rfl dX12_data_40 hm15 ?_
        refine r_aload_n (y := m12_data) dX12_data_43 rfl rfl ?_
        refine g_X12_147 (y := m12_data) rfl dX12_data_44 (St.i hm15) ?_
        refine V.top (b := 0) (by first | rfl | simp [mI_set, mI_setR]) ?_
        refine r_if_ne (y := m12_data) (tgt := 64) dX12_data_47 (by decide) (fun hc19 => ?_) (fun hc19 => ?_)
        · have h := h.1 hc19
          refine r_iconst (y := m12_data) (v := 0) dX12_data_64 (by decide) ?_
          exact r_iret (y := m12_data) dX12_data_65 rfl rfl h
        · have h := h.2 hc19
          refine r_aload_n (y := m12_data) dX12_data_50 rfl rfl ?_
          refine r_bipush (y := m12_data) (v := 10) dX12_data_51 (by decide) ?_
          refine r_iload_n (y := m12_data) dX12_data_53 rfl rfl ?_
          refine r_iadd (y := m12_data) dX12_data_54 ?_
          refine r_iload_n (y := m12_data) dX12_data_55 rfl rfl ?_
          refine r_iload_n (y := m12_data) dX12_data_56 rfl rfl ?_
          refine r_iconst (y := m12_data) (v := 3) dX12_data_57 (by decide) ?_
          refine r_callV (y := m12_data) (As := [(.int (10 + a0)), (.int a1), (.int a2), (.int 3)]) (b := 668) (ci := 12) dX12_data_58 rfl k12_lay lm_X12_173 rfl ⟨by decide, by decide⟩ (so_668 (St.i hm15)) (by decide) rfl (Nat.le_of_ble_eq_true rfl) (C.mono h ?_)
          rintro _ m20 ⟨x22, rfl, hm21, h⟩
          refine ⟨_, rfl, ?_⟩
          refine r_goto (y := m12_data) (tgt := 65) dX12_data_61 (by decide) ?_
          exact r_iret (y := m12_data) dX12_data_65 rfl rfl h
      · have h := h.2 hc18
        refine r_iconst (y := m12_data) (v := 2) dX12_data_35 (by decide) ?_
        refine r_goto (y := m12_data) (tgt := 40) dX12_data_36 (by decide) ?_
        refine p_X12_147 (y := m12_data) rfl dX12_data_40 hm15 ?_
        refine r_aload_n (y := m12_data) dX12_data_43 rfl rfl ?_
        refine g_X12_147 (y := m12_data) rfl dX12_data_44 (St.i hm15) ?_
        refine V.top (b := 2) (by first | rfl | simp [mI_set, mI_setR]) ?_
        refine r_if_ne (y := m12_data) (tgt := 64) dX12_data_47 (by decide) (fun hc23 => ?_) (fun hc23 => ?_)
        · have h := h.1 hc23
          refine r_iconst (y := m12_data) (v := 0) dX12_data_64 (by decide) ?_
          exact r_iret (y := m12_data) dX12_data_65 rfl rfl h
        · have h := h.2 hc23
          refine r_aload_n (y := m12_data) dX12_data_50 rfl rfl ?_
          refine r_bipush (y := m12_data) (v := 10) dX12_data_51 (by decide) ?_
          refine r_iload_n (y := m12_data) dX12_data_53 rfl rfl ?_
          refine r_iadd (y := m12_data) dX12_data_54 ?_
          refine r_iload_n (y := m12_data) dX12_data_55 rfl rfl ?_
          refine r_iload_n (y := m12_data) dX12_data_56 rfl rfl ?_
          refine r_iconst (y := m12_data) (v := 3) dX12_data_57 (by decide) ?_
          refine r_callV (y := m12_data) (As := [(.int (10 + a0)), (.int a1), (.int a2), (.int 3)]) (b := 668) (ci := 12) dX12_data_58 rfl k12_lay lm_X12_173 rfl ⟨by decide, by decide⟩ (so_668 (St.i hm15)) (by decide) rfl (Nat.le_of_ble_eq_true rfl) (C.mono h ?_)
          rintro _ m24 ⟨x26, rfl, hm25, h⟩
          refine ⟨_, rfl, ?_⟩
          refine r_goto (y := m12_data) (tgt := 65) dX12_data_61 (by decide) ?_
          exact r_iret (y := m12_data) dX12_data_65 rfl rfl h
    · have h := h.2 hc17
      refine r_iconst (y := m12_data) (v := 1) dX12_data_26 (by decide) ?_
      refine r_goto (y := m12_data) (tgt := 40) dX12_data_27 (by decide) ?_
      refine p_X12_147 (y := m12_data) rfl dX12_data_40 hm15 ?_
      refine r_aload_n (y := m12_data) dX12_data_43 rfl rfl ?_
      refine g_X12_147 (y := m12_data) rfl dX12_data_44 (St.i hm15) ?_
      refine V.top (b := 1) (by first | rfl | simp [mI_set, mI_setR]) ?_
      refine r_if_ne (y := m12_data) (tgt := 64) dX12_data_47 (by decide) (fun hc27 => ?_) (fun hc27 => ?_)
      · have h := h.1 hc27
        refine r_iconst (y := m12_data) (v := 0) dX12_data_64 (by decide) ?_
        exact r_iret (y := m12_data) dX12_data_65 rfl rfl h
      · have h := h.2 hc27
        refine r_aload_n (y := m12_data) dX12_data_50 rfl rfl ?_
        refine r_bipush (y := m12_data) (v := 10) dX12_data_51 (by decide) ?_
        refine r_iload_n (y := m12_data) dX12_data_53 rfl rfl ?_
        refine r_iadd (y := m12_data) dX12_data_54 ?_
        refine r_iload_n (y := m12_data) dX12_data_55 rfl rfl ?_
        refine r_iload_n (y := m12_data) dX12_data_56 rfl rfl ?_
        refine r_iconst (y := m12_data) (v := 3) dX12_data_57 (by decide) ?_
        refine r_callV (y := m12_data) (As := [(.int (10 + a0)), (.int a1), (.int a2), (.int 3)]) (b := 668) (ci := 12) dX12_data_58 rfl k12_lay lm_X12_173 rfl ⟨by decide, by decide⟩ (so_668 (St.i hm15)) (by decide) rfl (Nat.le_of_ble_eq_true rfl) (C.mono h ?_)
        rintro _ m28 ⟨x30, rfl, hm29, h⟩
        refine ⟨_, rfl, ?_⟩
        refine r_goto (y := m12_data) (tgt := 65) dX12_data_61 (by decide) ?_
        exact r_iret (y := m12_data) dX12_data_65 rfl rfl h
set_option maxHeartbeats 4000000 in
set_option maxRecDepth 100000 in
theorem w12_call {m : Mm} {K : Option Value ⊕ String → Mm → Prop} (hm : St m) {a0 : Int32} {a1 : Int32} {a2 : Int32}  (h : C m12_isFunction [(.ref 668), (.int a0)] m (fun o m1 => ∃ x3 : Int32, o = .inl (some (.int x3)) ∧ St m1 ∧ ((x3 = 0 → ((¬ (1 : Int32) = 0 → K (.inl (some (.int 0))) (mSetI m1 668 12 1)) ∧ ((1 : Int32) = 0 → C m12_lay [(.ref 668), (.int (20 + a0)), (.int a1), (.int a2), (.int 2)] (mSetI m1 668 12 1) (fun o m6 => ∃ x8 : Int32, o = .inl (some (.int x8)) ∧ St m6 ∧ K (.inl (some (.int x8))) m6)))) ∧ (¬ x3 = 0 → vp_in a0 8 ∧ C m12_areParts [(.ref 668), (.int (mI m1 669 (Int32.toNatClampNeg a0))), (.int a1), (.int a2)] m1 (fun o m10 => ∃ x12 : Int32, o = .inl (some (.int x12)) ∧ St m10 ∧ ((x12 = 0 → ((¬ (1 : Int32) = 0 → K (.inl (some (.int 0))) (mSetI m10 668 12 1)) ∧ ((1 : Int32) = 0 → C m12_lay [(.ref 668), (.int (20 + a0)), (.int a1), (.int a2), (.int 2)] (mSetI m10 668 12 1) (fun o m15 => ∃ x17 : Int32, o = .inl (some (.int x17)) ∧ St m15 ∧ K (.inl (some (.int x17))) m15)))) ∧ (¬ x12 = 0 → ((¬ (0 : Int32) = 0 → K (.inl (some (.int 0))) (mSetI m10 668 12 0)) ∧ ((0 : Int32) = 0 → C m12_lay [(.ref 668), (.int (20 + a0)), (.int a1), (.int a2), (.int 2)] (mSetI m10 668 12 0) (fun o m19 => ∃ x21 : Int32, o = .inl (some (.int x21)) ∧ St m19 ∧ K (.inl (some (.int x21))) m19)))))))))) : V m12_call 0 [some (.ref 668), some (.int a0), some (.int a1), some (.int a2)] [] m K := by
  refine r_aload_n (y := m12_call) dX12_call_0 rfl rfl ?_
  refine r_aload_n (y := m12_call) dX12_call_1 rfl rfl ?_
  refine r_iload_n (y := m12_call) dX12_call_2 rfl rfl ?_
  refine r_callV (y := m12_call) (As := [(.int a0)]) (b := 668) (ci := 12) dX12_call_3 rfl k12_isFunction lm_X12_180 rfl ⟨by decide, by decide⟩ (so_668 hm) (by decide) rfl (Nat.le_of_ble_eq_true rfl) (C.mono h ?_)
  rintro _ m1 ⟨x3, rfl, hm2, h⟩
  refine ⟨_, rfl, ?_⟩
  refine r_if_eq (y := m12_call) (tgt := 28) dX12_call_6 (by decide) (fun hc4 => ?_) (fun hc4 => ?_)
  · have h := h.1 hc4
    refine r_iconst (y := m12_call) (v := 1) dX12_call_28 (by decide) ?_
    refine p_X12_147 (y := m12_call) rfl dX12_call_29 hm2 ?_
    refine r_aload_n (y := m12_call) dX12_call_32 rfl rfl ?_
    refine g_X12_147 (y := m12_call) rfl dX12_call_33 (St.i hm2) ?_
    refine V.top (b := 1) (by first | rfl | simp [mI_set, mI_setR]) ?_
    refine r_if_ne (y := m12_call) (tgt := 53) dX12_call_36 (by decide) (fun hc5 => ?_) (fun hc5 => ?_)
    · have h := h.1 hc5
      refine r_iconst (y := m12_call) (v := 0) dX12_call_53 (by decide) ?_
      exact r_iret (y := m12_call) dX12_call_54 rfl rfl h
    · have h := h.2 hc5
      refine r_aload_n (y := m12_call) dX12_call_39 rfl rfl ?_
      refine r_bipush (y := m12_call) (v := 20) dX12_call_40 (by decide) ?_
      refine r_iload_n (y := m12_call) dX12_call_42 rfl rfl ?_
      refine r_iadd (y := m12_call) dX12_call_43 ?_
      refine r_iload_n (y := m12_call) dX12_call_44 rfl rfl ?_
      refine r_iload_n (y := m12_call) dX12_call_45 rfl rfl ?_
      refine r_iconst (y := m12_call) (v := 2) dX12_call_46 (by decide) ?_
      refine r_callV (y := m12_call) (As := [(.int (20 + a0)), (.int a1), (.int a2), (.int 2)]) (b := 668) (ci := 12) dX12_call_47 rfl k12_lay lm_X12_173 rfl ⟨by decide, by decide⟩ (so_668 (St.i hm2)) (by decide) rfl (Nat.le_of_ble_eq_true rfl) (C.mono h ?_)
      rintro _ m6 ⟨x8, rfl, hm7, h⟩
      refine ⟨_, rfl, ?_⟩
      refine r_goto (y := m12_call) (tgt := 54) dX12_call_50 (by decide) ?_
      exact r_iret (y := m12_call) dX12_call_54 rfl rfl h
  · have h := h.2 hc4
    refine r_aload_n (y := m12_call) dX12_call_9 rfl rfl ?_
    refine r_aload_n (y := m12_call) dX12_call_10 rfl rfl ?_
    refine g_X12_7 (y := m12_call) rfl dX12_call_11 hm2 ?_
    refine r_iload_n (y := m12_call) dX12_call_14 rfl rfl ?_
    obtain ⟨hb9, h⟩ := h
    refine r_iald (y := m12_call) (n := 8) dX12_call_15 (sa_669 hm2) hb9 ?_
    refine r_iload_n (y := m12_call) dX12_call_16 rfl rfl ?_
    refine r_iload_n (y := m12_call) dX12_call_17 rfl rfl ?_
    refine r_callV (y := m12_call) (As := [(.int (mI m1 669 (Int32.toNatClampNeg a0))), (.int a1), (.int a2)]) (b := 668) (ci := 12) dX12_call_18 rfl k12_areParts lm_X12_177 rfl ⟨by decide, by decide⟩ (so_668 hm2) (by decide) rfl (Nat.le_of_ble_eq_true rfl) (C.mono h ?_)
    rintro _ m10 ⟨x12, rfl, hm11, h⟩
    refine ⟨_, rfl, ?_⟩
    refine r_if_eq (y := m12_call) (tgt := 28) dX12_call_21 (by decide) (fun hc13 => ?_) (fun hc13 => ?_)
    · have h := h.1 hc13
      refine r_iconst (y := m12_call) (v := 1) dX12_call_28 (by decide) ?_
      refine p_X12_147 (y := m12_call) rfl dX12_call_29 hm11 ?_
      refine r_aload_n (y := m12_call) dX12_call_32 rfl rfl ?_
      refine g_X12_147 (y := m12_call) rfl dX12_call_33 (St.i hm11) ?_
      refine V.top (b := 1) (by first | rfl | simp [mI_set, mI_setR]) ?_
      refine r_if_ne (y := m12_call) (tgt := 53) dX12_call_36 (by decide) (fun hc14 => ?_) (fun hc14 => ?_)
      · have h := h.1 hc14
        refine r_iconst (y := m12_call) (v := 0) dX12_call_53 (by decide) ?_
        exact r_iret (y := m12_call) dX12_call_54 rfl rfl h
      · have h := h.2 hc14
        refine r_aload_n (y := m12_call) dX12_call_39 rfl rfl ?_
        refine r_bipush (y := m12_call) (v := 20) dX12_call_40 (by decide) ?_
        refine r_iload_n (y := m12_call) dX12_call_42 rfl rfl ?_
        refine r_iadd (y := m12_call) dX12_call_43 ?_
        refine r_iload_n (y := m12_call) dX12_call_44 rfl rfl ?_
        refine r_iload_n (y := m12_call) dX12_call_45 rfl rfl ?_
        refine r_iconst (y := m12_call) (v := 2) dX12_call_46 (by decide) ?_
        refine r_callV (y := m12_call) (As := [(.int (20 + a0)), (.int a1), (.int a2), (.int 2)]) (b := 668) (ci := 12) dX12_call_47 rfl k12_lay lm_X12_173 rfl ⟨by decide, by decide⟩ (so_668 (St.i hm11)) (by decide) rfl (Nat.le_of_ble_eq_true rfl) (C.mono h ?_)
        rintro _ m15 ⟨x17, rfl, hm16, h⟩
        refine ⟨_, rfl, ?_⟩
        refine r_goto (y := m12_call) (tgt := 54) dX12_call_50 (by decide) ?_
        exact r_iret (y := m12_call) dX12_call_54 rfl rfl h
    · have h := h.2 hc13
      refine r_iconst (y := m12_call) (v := 0) dX12_call_24 (by decide) ?_
      refine r_goto (y := m12_call) (tgt := 29) dX12_call_25 (by decide) ?_
      refine p_X12_147 (y := m12_call) rfl dX12_call_29 hm11 ?_
      refine r_aload_n (y := m12_call) dX12_call_32 rfl rfl ?_
      refine g_X12_147 (y := m12_call) rfl dX12_call_33 (St.i hm11) ?_
      refine V.top (b := 0) (by first | rfl | simp [mI_set, mI_setR]) ?_
      refine r_if_ne (y := m12_call) (tgt := 53) dX12_call_36 (by decide) (fun hc18 => ?_) (fun hc18 => ?_)
      · have h := h.1 hc18
        refine r_iconst (y := m12_call) (v := 0) dX12_call_53 (by decide) ?_
        exact r_iret (y := m12_call) dX12_call_54 rfl rfl h
      · have h := h.2 hc18
        refine r_aload_n (y := m12_call) dX12_call_39 rfl rfl ?_
        refine r_bipush (y := m12_call) (v := 20) dX12_call_40 (by decide) ?_
        refine r_iload_n (y := m12_call) dX12_call_42 rfl rfl ?_
        refine r_iadd (y := m12_call) dX12_call_43 ?_
        refine r_iload_n (y := m12_call) dX12_call_44 rfl rfl ?_
        refine r_iload_n (y := m12_call) dX12_call_45 rfl rfl ?_
        refine r_iconst (y := m12_call) (v := 2) dX12_call_46 (by decide) ?_
        refine r_callV (y := m12_call) (As := [(.int (20 + a0)), (.int a1), (.int a2), (.int 2)]) (b := 668) (ci := 12) dX12_call_47 rfl k12_lay lm_X12_173 rfl ⟨by decide, by decide⟩ (so_668 (St.i hm11)) (by decide) rfl (Nat.le_of_ble_eq_true rfl) (C.mono h ?_)
        rintro _ m19 ⟨x21, rfl, hm20, h⟩
        refine ⟨_, rfl, ?_⟩
        refine r_goto (y := m12_call) (tgt := 54) dX12_call_50 (by decide) ?_
        exact r_iret (y := m12_call) dX12_call_54 rfl rfl h
set_option maxHeartbeats 4000000 in
set_option maxRecDepth 100000 in
theorem w12_layTwo {m : Mm} {K : Option Value ⊕ String → Mm → Prop} (hm : St m) {a0 : Int32} {a1 : Int32} {a2 : Int32}  (h : C m12_isNode [(.ref 668), (.int a1)] m (fun o m1 => ∃ x3 : Int32, o = .inl (some (.int x3)) ∧ St m1 ∧ ((x3 = 0 → ((¬ (1 : Int32) = 0 → K (.inl (some (.int 0))) (mSetI m1 668 12 1)) ∧ ((1 : Int32) = 0 → C m12_lay [(.ref 668), (.int a0), (.int a1), (.int a2), (.int 2)] (mSetI m1 668 12 1) (fun o m6 => ∃ x8 : Int32, o = .inl (some (.int x8)) ∧ St m6 ∧ K (.inl (some (.int x8))) m6)))) ∧ (¬ x3 = 0 → C m12_isNode [(.ref 668), (.int a2)] m1 (fun o m9 => ∃ x11 : Int32, o = .inl (some (.int x11)) ∧ St m9 ∧ ((x11 = 0 → ((¬ (1 : Int32) = 0 → K (.inl (some (.int 0))) (mSetI m9 668 12 1)) ∧ ((1 : Int32) = 0 → C m12_lay [(.ref 668), (.int a0), (.int a1), (.int a2), (.int 2)] (mSetI m9 668 12 1) (fun o m14 => ∃ x16 : Int32, o = .inl (some (.int x16)) ∧ St m14 ∧ K (.inl (some (.int x16))) m14)))) ∧ (¬ x11 = 0 → ((¬ (0 : Int32) = 0 → K (.inl (some (.int 0))) (mSetI m9 668 12 0)) ∧ ((0 : Int32) = 0 → C m12_lay [(.ref 668), (.int a0), (.int a1), (.int a2), (.int 2)] (mSetI m9 668 12 0) (fun o m18 => ∃ x20 : Int32, o = .inl (some (.int x20)) ∧ St m18 ∧ K (.inl (some (.int x20))) m18)))))))))) : V m12_layTwo 0 [some (.ref 668), some (.int a0), some (.int a1), some (.int a2)] [] m K := by
  refine r_aload_n (y := m12_layTwo) dX12_layTwo_0 rfl rfl ?_
  refine r_aload_n (y := m12_layTwo) dX12_layTwo_1 rfl rfl ?_
  refine r_iload_n (y := m12_layTwo) dX12_layTwo_2 rfl rfl ?_
  refine r_callV (y := m12_layTwo) (As := [(.int a1)]) (b := 668) (ci := 12) dX12_layTwo_3 rfl k12_isNode lm_X12_169 rfl ⟨by decide, by decide⟩ (so_668 hm) (by decide) rfl (Nat.le_of_ble_eq_true rfl) (C.mono h ?_)
  rintro _ m1 ⟨x3, rfl, hm2, h⟩
  refine ⟨_, rfl, ?_⟩
  refine r_if_eq (y := m12_layTwo) (tgt := 21) dX12_layTwo_6 (by decide) (fun hc4 => ?_) (fun hc4 => ?_)
  · have h := h.1 hc4
    refine r_iconst (y := m12_layTwo) (v := 1) dX12_layTwo_21 (by decide) ?_
    refine p_X12_147 (y := m12_layTwo) rfl dX12_layTwo_22 hm2 ?_
    refine r_aload_n (y := m12_layTwo) dX12_layTwo_25 rfl rfl ?_
    refine g_X12_147 (y := m12_layTwo) rfl dX12_layTwo_26 (St.i hm2) ?_
    refine V.top (b := 1) (by first | rfl | simp [mI_set, mI_setR]) ?_
    refine r_if_ne (y := m12_layTwo) (tgt := 43) dX12_layTwo_29 (by decide) (fun hc5 => ?_) (fun hc5 => ?_)
    · have h := h.1 hc5
      refine r_iconst (y := m12_layTwo) (v := 0) dX12_layTwo_43 (by decide) ?_
      exact r_iret (y := m12_layTwo) dX12_layTwo_44 rfl rfl h
    · have h := h.2 hc5
      refine r_aload_n (y := m12_layTwo) dX12_layTwo_32 rfl rfl ?_
      refine r_iload_n (y := m12_layTwo) dX12_layTwo_33 rfl rfl ?_
      refine r_iload_n (y := m12_layTwo) dX12_layTwo_34 rfl rfl ?_
      refine r_iload_n (y := m12_layTwo) dX12_layTwo_35 rfl rfl ?_
      refine r_iconst (y := m12_layTwo) (v := 2) dX12_layTwo_36 (by decide) ?_
      refine r_callV (y := m12_layTwo) (As := [(.int a0), (.int a1), (.int a2), (.int 2)]) (b := 668) (ci := 12) dX12_layTwo_37 rfl k12_lay lm_X12_173 rfl ⟨by decide, by decide⟩ (so_668 (St.i hm2)) (by decide) rfl (Nat.le_of_ble_eq_true rfl) (C.mono h ?_)
      rintro _ m6 ⟨x8, rfl, hm7, h⟩
      refine ⟨_, rfl, ?_⟩
      refine r_goto (y := m12_layTwo) (tgt := 44) dX12_layTwo_40 (by decide) ?_
      exact r_iret (y := m12_layTwo) dX12_layTwo_44 rfl rfl h
  · have h := h.2 hc4
    refine r_aload_n (y := m12_layTwo) dX12_layTwo_9 rfl rfl ?_
    refine r_iload_n (y := m12_layTwo) dX12_layTwo_10 rfl rfl ?_
    refine r_callV (y := m12_layTwo) (As := [(.int a2)]) (b := 668) (ci := 12) dX12_layTwo_11 rfl k12_isNode lm_X12_169 rfl ⟨by decide, by decide⟩ (so_668 hm2) (by decide) rfl (Nat.le_of_ble_eq_true rfl) (C.mono h ?_)
    rintro _ m9 ⟨x11, rfl, hm10, h⟩
    refine ⟨_, rfl, ?_⟩
    refine r_if_eq (y := m12_layTwo) (tgt := 21) dX12_layTwo_14 (by decide) (fun hc12 => ?_) (fun hc12 => ?_)
    · have h := h.1 hc12
      refine r_iconst (y := m12_layTwo) (v := 1) dX12_layTwo_21 (by decide) ?_
      refine p_X12_147 (y := m12_layTwo) rfl dX12_layTwo_22 hm10 ?_
      refine r_aload_n (y := m12_layTwo) dX12_layTwo_25 rfl rfl ?_
      refine g_X12_147 (y := m12_layTwo) rfl dX12_layTwo_26 (St.i hm10) ?_
      refine V.top (b := 1) (by first | rfl | simp [mI_set, mI_setR]) ?_
      refine r_if_ne (y := m12_layTwo) (tgt := 43) dX12_layTwo_29 (by decide) (fun hc13 => ?_) (fun hc13 => ?_)
      · have h := h.1 hc13
        refine r_iconst (y := m12_layTwo) (v := 0) dX12_layTwo_43 (by decide) ?_
        exact r_iret (y := m12_layTwo) dX12_layTwo_44 rfl rfl h
      · have h := h.2 hc13
        refine r_aload_n (y := m12_layTwo) dX12_layTwo_32 rfl rfl ?_
        refine r_iload_n (y := m12_layTwo) dX12_layTwo_33 rfl rfl ?_
        refine r_iload_n (y := m12_layTwo) dX12_layTwo_34 rfl rfl ?_
        refine r_iload_n (y := m12_layTwo) dX12_layTwo_35 rfl rfl ?_
        refine r_iconst (y := m12_layTwo) (v := 2) dX12_layTwo_36 (by decide) ?_
        refine r_callV (y := m12_layTwo) (As := [(.int a0), (.int a1), (.int a2), (.int 2)]) (b := 668) (ci := 12) dX12_layTwo_37 rfl k12_lay lm_X12_173 rfl ⟨by decide, by decide⟩ (so_668 (St.i hm10)) (by decide) rfl (Nat.le_of_ble_eq_true rfl) (C.mono h ?_)
        rintro _ m14 ⟨x16, rfl, hm15, h⟩
        refine ⟨_, rfl, ?_⟩
        refine r_goto (y := m12_layTwo) (tgt := 44) dX12_layTwo_40 (by decide) ?_
        exact r_iret (y := m12_layTwo) dX12_layTwo_44 rfl rfl h
    · have h := h.2 hc12
      refine r_iconst (y := m12_layTwo) (v := 0) dX12_layTwo_17 (by decide) ?_
      refine r_goto (y := m12_layTwo) (tgt := 22) dX12_layTwo_18 (by decide) ?_
      refine p_X12_147 (y := m12_layTwo) rfl dX12_layTwo_22 hm10 ?_
      refine r_aload_n (y := m12_layTwo) dX12_layTwo_25 rfl rfl ?_
      refine g_X12_147 (y := m12_layTwo) rfl dX12_layTwo_26 (St.i hm10) ?_
      refine V.top (b := 0) (by first | rfl | simp [mI_set, mI_setR]) ?_
      refine r_if_ne (y := m12_layTwo) (tgt := 43) dX12_layTwo_29 (by decide) (fun hc17 => ?_) (fun hc17 => ?_)
      · have h := h.1 hc17
        refine r_iconst (y := m12_layTwo) (v := 0) dX12_layTwo_43 (by decide) ?_
        exact r_iret (y := m12_layTwo) dX12_layTwo_44 rfl rfl h
      · have h := h.2 hc17
        refine r_aload_n (y := m12_layTwo) dX12_layTwo_32 rfl rfl ?_
        refine r_iload_n (y := m12_layTwo) dX12_layTwo_33 rfl rfl ?_
        refine r_iload_n (y := m12_layTwo) dX12_layTwo_34 rfl rfl ?_
        refine r_iload_n (y := m12_layTwo) dX12_layTwo_35 rfl rfl ?_
        refine r_iconst (y := m12_layTwo) (v := 2) dX12_layTwo_36 (by decide) ?_
        refine r_callV (y := m12_layTwo) (As := [(.int a0), (.int a1), (.int a2), (.int 2)]) (b := 668) (ci := 12) dX12_layTwo_37 rfl k12_lay lm_X12_173 rfl ⟨by decide, by decide⟩ (so_668 (St.i hm10)) (by decide) rfl (Nat.le_of_ble_eq_true rfl) (C.mono h ?_)
        rintro _ m18 ⟨x20, rfl, hm19, h⟩
        refine ⟨_, rfl, ?_⟩
        refine r_goto (y := m12_layTwo) (tgt := 44) dX12_layTwo_40 (by decide) ?_
        exact r_iret (y := m12_layTwo) dX12_layTwo_44 rfl rfl h
set_option maxHeartbeats 4000000 in
set_option maxRecDepth 100000 in
theorem w12_either {m : Mm} {K : Option Value ⊕ String → Mm → Prop} (hm : St m) {a0 : Int32} {a1 : Int32}  (h : C m12_layTwo [(.ref 668), (.int 30), (.int a0), (.int a1)] m (fun o m1 => ∃ x3 : Int32, o = .inl (some (.int x3)) ∧ St m1 ∧ K (.inl (some (.int x3))) m1)) : V m12_either 0 [some (.ref 668), some (.int a0), some (.int a1)] [] m K := by
  refine r_aload_n (y := m12_either) dX12_either_0 rfl rfl ?_
  refine r_bipush (y := m12_either) (v := 30) dX12_either_1 (by decide) ?_
  refine r_iload_n (y := m12_either) dX12_either_3 rfl rfl ?_
  refine r_iload_n (y := m12_either) dX12_either_4 rfl rfl ?_
  refine r_callV (y := m12_either) (As := [(.int 30), (.int a0), (.int a1)]) (b := 668) (ci := 12) dX12_either_5 rfl k12_layTwo lm_X12_183 rfl ⟨by decide, by decide⟩ (so_668 hm) (by decide) rfl (Nat.le_of_ble_eq_true rfl) (C.mono h ?_)
  rintro _ m1 ⟨x3, rfl, hm2, h⟩
  refine ⟨_, rfl, ?_⟩
  exact r_iret (y := m12_either) dX12_either_8 rfl rfl h
set_option maxHeartbeats 4000000 in
set_option maxRecDepth 100000 in
theorem w12_same {m : Mm} {K : Option Value ⊕ String → Mm → Prop} (hm : St m) {a0 : Int32} {a1 : Int32}  (h : C m12_layTwo [(.ref 668), (.int 31), (.int a0), (.int a1)] m (fun o m1 => ∃ x3 : Int32, o = .inl (some (.int x3)) ∧ St m1 ∧ K (.inl (some (.int x3))) m1)) : V m12_same 0 [some (.ref 668), some (.int a0), some (.int a1)] [] m K := by
  refine r_aload_n (y := m12_same) dX12_same_0 rfl rfl ?_
  refine r_bipush (y := m12_same) (v := 31) dX12_same_1 (by decide) ?_
  refine r_iload_n (y := m12_same) dX12_same_3 rfl rfl ?_
  refine r_iload_n (y := m12_same) dX12_same_4 rfl rfl ?_
  refine r_callV (y := m12_same) (As := [(.int 31), (.int a0), (.int a1)]) (b := 668) (ci := 12) dX12_same_5 rfl k12_layTwo lm_X12_183 rfl ⟨by decide, by decide⟩ (so_668 hm) (by decide) rfl (Nat.le_of_ble_eq_true rfl) (C.mono h ?_)
  rintro _ m1 ⟨x3, rfl, hm2, h⟩
  refine ⟨_, rfl, ?_⟩
  exact r_iret (y := m12_same) dX12_same_8 rfl rfl h
set_option maxHeartbeats 4000000 in
set_option maxRecDepth 100000 in
theorem w12_unlike {m : Mm} {K : Option Value ⊕ String → Mm → Prop} (hm : St m) {a0 : Int32} {a1 : Int32}  (h : C m12_layTwo [(.ref 668), (.int 32), (.int a0), (.int a1)] m (fun o m1 => ∃ x3 : Int32, o = .inl (some (.int x3)) ∧ St m1 ∧ K (.inl (some (.int x3))) m1)) : V m12_unlike 0 [some (.ref 668), some (.int a0), some (.int a1)] [] m K := by
  refine r_aload_n (y := m12_unlike) dX12_unlike_0 rfl rfl ?_
  refine r_bipush (y := m12_unlike) (v := 32) dX12_unlike_1 (by decide) ?_
  refine r_iload_n (y := m12_unlike) dX12_unlike_3 rfl rfl ?_
  refine r_iload_n (y := m12_unlike) dX12_unlike_4 rfl rfl ?_
  refine r_callV (y := m12_unlike) (As := [(.int 32), (.int a0), (.int a1)]) (b := 668) (ci := 12) dX12_unlike_5 rfl k12_layTwo lm_X12_183 rfl ⟨by decide, by decide⟩ (so_668 hm) (by decide) rfl (Nat.le_of_ble_eq_true rfl) (C.mono h ?_)
  rintro _ m1 ⟨x3, rfl, hm2, h⟩
  refine ⟨_, rfl, ?_⟩
  exact r_iret (y := m12_unlike) dX12_unlike_8 rfl rfl h
set_option maxHeartbeats 4000000 in
set_option maxRecDepth 100000 in
theorem w12_some {m : Mm} {K : Option Value ⊕ String → Mm → Prop} (hm : St m) {a0 : Int32}  (h : C m12_layTwo [(.ref 668), (.int 33), (.int a0), (.int a0)] m (fun o m1 => ∃ x3 : Int32, o = .inl (some (.int x3)) ∧ St m1 ∧ K (.inl (some (.int x3))) m1)) : V m12_some 0 [some (.ref 668), some (.int a0)] [] m K := by
  refine r_aload_n (y := m12_some) dX12_some_0 rfl rfl ?_
  refine r_bipush (y := m12_some) (v := 33) dX12_some_1 (by decide) ?_
  refine r_iload_n (y := m12_some) dX12_some_3 rfl rfl ?_
  refine r_iload_n (y := m12_some) dX12_some_4 rfl rfl ?_
  refine r_callV (y := m12_some) (As := [(.int 33), (.int a0), (.int a0)]) (b := 668) (ci := 12) dX12_some_5 rfl k12_layTwo lm_X12_183 rfl ⟨by decide, by decide⟩ (so_668 hm) (by decide) rfl (Nat.le_of_ble_eq_true rfl) (C.mono h ?_)
  rintro _ m1 ⟨x3, rfl, hm2, h⟩
  refine ⟨_, rfl, ?_⟩
  exact r_iret (y := m12_some) dX12_some_8 rfl rfl h
set_option maxHeartbeats 4000000 in
set_option maxRecDepth 100000 in
theorem w12_drop {m : Mm} {K : Option Value ⊕ String → Mm → Prop} (hm : St m)   (h : K (.inl (some (.int (mI m 668 3)))) (mSetI (mSetI m 668 12 0) 668 3 0)) : V m12_drop 0 [some (.ref 668), none] [] m K := by
  refine r_aload_n (y := m12_drop) dX12_drop_0 rfl rfl ?_
  refine r_iconst (y := m12_drop) (v := 0) dX12_drop_1 (by decide) ?_
  refine p_X12_147 (y := m12_drop) rfl dX12_drop_2 hm ?_
  refine r_aload_n (y := m12_drop) dX12_drop_5 rfl rfl ?_
  refine g_X12_158 (y := m12_drop) rfl dX12_drop_6 (St.i hm) ?_
  refine V.top (b := (mI m 668 3)) (by first | rfl | simp [mI_set, mI_setR]) ?_
  refine r_istore_n (y := m12_drop) (L' := [some (.ref 668), some (.int (mI m 668 3))]) dX12_drop_9 rfl (Nat.le_of_ble_eq_true rfl) rfl ?_
  refine r_aload_n (y := m12_drop) dX12_drop_10 rfl rfl ?_
  refine r_iconst (y := m12_drop) (v := 0) dX12_drop_11 (by decide) ?_
  refine p_X12_158 (y := m12_drop) rfl dX12_drop_12 (St.i hm) ?_
  refine r_iload_n (y := m12_drop) dX12_drop_15 rfl rfl ?_
  exact r_iret (y := m12_drop) dX12_drop_16 rfl rfl h
set_option maxHeartbeats 4000000 in
set_option maxRecDepth 100000 in
theorem w12_patternNames {m : Mm} {K : Option Value ⊕ String → Mm → Prop} (hm : St m) {a0 : Int32} {a1 : Int32}  (h : ((a1 = (-1) → V m12_patternNames 17 [some (.ref 668), some (.int a0), some (.int a1), some (.int a1), some (.int 0), some (.int 0), none] [] m K) ∧ (¬ a1 = (-1) → V m12_patternNames 17 [some (.ref 668), some (.int a0), some (.int a1), some (.int a1), some (.int 1), some (.int 0), none] [] m K))) : V m12_patternNames 0 [some (.ref 668), some (.int a0), some (.int a1), none, none, none, none] [] m K := by
  refine r_iload_n (y := m12_patternNames) dX12_patternNames_0 rfl rfl ?_
  refine r_istore_n (y := m12_patternNames) (L' := [some (.ref 668), some (.int a0), some (.int a1), some (.int a1), none, none, none]) dX12_patternNames_1 rfl (Nat.le_of_ble_eq_true rfl) rfl ?_
  refine r_iload_n (y := m12_patternNames) dX12_patternNames_2 rfl rfl ?_
  refine r_iconst (y := m12_patternNames) (v := (-1)) dX12_patternNames_3 (by decide) ?_
  refine r_icmp_eq (y := m12_patternNames) (tgt := 11) dX12_patternNames_4 (by decide) (fun hc1 => ?_) (fun hc1 => ?_)
  · have h := h.1 hc1
    refine r_iconst (y := m12_patternNames) (v := 0) dX12_patternNames_11 (by decide) ?_
    refine r_istore (y := m12_patternNames) (L' := [some (.ref 668), some (.int a0), some (.int a1), some (.int a1), some (.int 0), none, none]) dX12_patternNames_12 (Nat.le_of_ble_eq_true rfl) rfl ?_
    refine r_iconst (y := m12_patternNames) (v := 0) dX12_patternNames_14 (by decide) ?_
    refine r_istore (y := m12_patternNames) (L' := [some (.ref 668), some (.int a0), some (.int a1), some (.int a1), some (.int 0), some (.int 0), none]) dX12_patternNames_15 (Nat.le_of_ble_eq_true rfl) rfl ?_
    exact h
  · have h := h.2 hc1
    refine r_iconst (y := m12_patternNames) (v := 1) dX12_patternNames_7 (by decide) ?_
    refine r_goto (y := m12_patternNames) (tgt := 12) dX12_patternNames_8 (by decide) ?_
    refine r_istore (y := m12_patternNames) (L' := [some (.ref 668), some (.int a0), some (.int a1), some (.int a1), some (.int 1), none, none]) dX12_patternNames_12 (Nat.le_of_ble_eq_true rfl) rfl ?_
    refine r_iconst (y := m12_patternNames) (v := 0) dX12_patternNames_14 (by decide) ?_
    refine r_istore (y := m12_patternNames) (L' := [some (.ref 668), some (.int a0), some (.int a1), some (.int a1), some (.int 1), some (.int 0), none]) dX12_patternNames_15 (Nat.le_of_ble_eq_true rfl) rfl ?_
    exact h
