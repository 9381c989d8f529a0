/-! written by gen/drive.py -/
set_option maxHeartbeats 4000000 in
set_option maxRecDepth 100000 in
theorem w5_addFunction {m : Mm} {K : Option Value ⊕ String → Mm → Prop} (hm : St m) {a0 : Int32} {a1 : Int32}  (h : vp_in (mI m 7 4) 8 ∧ vp_in (mI m 7 4) 8 ∧ vp_nar .boolean a1 = a1 ∧ K (.inl (some (.int (mI m 7 4)))) (mSetI (mSetI (mSetI m 8 (Int32.toNatClampNeg (mI m 7 4)) a0) 9 (Int32.toNatClampNeg (mI m 7 4)) a1) 7 4 ((mI m 7 4) + 1))) : V m5_addFunction 0 [some (.ref 7), some (.int a0), some (.int a1), none] [] m K := by
  refine r_aload_n (y := m5_addFunction) dX5_addFunction_0 rfl rfl ?_
  refine g_X5_28 (y := m5_addFunction) rfl dX5_addFunction_1 hm ?_
  refine r_istore_n (y := m5_addFunction) (L' := [some (.ref 7), some (.int a0), some (.int a1), some (.int (mI m 7 4))]) dX5_addFunction_4 rfl (Nat.le_of_ble_eq_true rfl) rfl ?_
  refine r_aload_n (y := m5_addFunction) dX5_addFunction_5 rfl rfl ?_
  refine g_X5_9 (y := m5_addFunction) rfl dX5_addFunction_6 hm ?_
  refine r_iload_n (y := m5_addFunction) dX5_addFunction_9 rfl rfl ?_
  refine r_iload_n (y := m5_addFunction) dX5_addFunction_10 rfl rfl ?_
  obtain ⟨hb1, h⟩ := h
  refine r_iast (y := m5_addFunction) (n := 8) dX5_addFunction_11 (sa_8 hm) hb1 ?_
  refine r_aload_n (y := m5_addFunction) dX5_addFunction_12 rfl rfl ?_
  refine g_X5_15 (y := m5_addFunction) rfl dX5_addFunction_13 (St.i hm) ?_
  refine r_iload_n (y := m5_addFunction) dX5_addFunction_16 rfl rfl ?_
  refine r_iload_n (y := m5_addFunction) dX5_addFunction_17 rfl rfl ?_
  obtain ⟨hb2, hz, h⟩ := h
  refine r_zast (y := m5_addFunction) (n := 8) dX5_addFunction_18 (sa_9 (St.i hm)) hb2 hz ?_
  refine r_aload_n (y := m5_addFunction) dX5_addFunction_19 rfl rfl ?_
  refine r_iload_n (y := m5_addFunction) dX5_addFunction_20 rfl rfl ?_
  refine r_iconst (y := m5_addFunction) (v := 1) dX5_addFunction_21 (by decide) ?_
  refine r_iadd (y := m5_addFunction) dX5_addFunction_22 ?_
  refine p_X5_28 (y := m5_addFunction) rfl dX5_addFunction_23 (St.i (St.i hm)) ?_
  refine r_iload_n (y := m5_addFunction) dX5_addFunction_26 rfl rfl ?_
  exact r_iret (y := m5_addFunction) dX5_addFunction_27 rfl rfl h
set_option maxHeartbeats 4000000 in
set_option maxRecDepth 100000 in
theorem w5_partsOf {m : Mm} {K : Option Value ⊕ String → Mm → Prop} (hm : St m) {a0 : Int32}  (h : ((a0 < 0 → K (.inl (some (.int 0))) m) ∧ (¬ a0 < 0 → (((mI m 7 4) ≤ a0 → K (.inl (some (.int 0))) m) ∧ (¬ (mI m 7 4) ≤ a0 → vp_in a0 8 ∧ K (.inl (some (.int (mI m 8 (Int32.toNatClampNeg a0))))) m))))) : V m5_partsOf 0 [some (.ref 7), some (.int a0)] [] m K := by
  refine r_iload_n (y := m5_partsOf) dX5_partsOf_0 rfl rfl ?_
  refine r_if_lt (y := m5_partsOf) (tgt := 21) dX5_partsOf_1 (by decide) (fun hc1 => ?_) (fun hc1 => ?_)
  · have h := h.1 hc1
    refine r_iconst (y := m5_partsOf) (v := 0) dX5_partsOf_21 (by decide) ?_
    exact r_iret (y := m5_partsOf) dX5_partsOf_22 rfl rfl h
  · have h := h.2 hc1
    refine r_iload_n (y := m5_partsOf) dX5_partsOf_4 rfl rfl ?_
    refine r_aload_n (y := m5_partsOf) dX5_partsOf_5 rfl rfl ?_
    refine g_X5_28 (y := m5_partsOf) rfl dX5_partsOf_6 hm ?_
    refine r_icmp_ge (y := m5_partsOf) (tgt := 21) dX5_partsOf_9 (by decide) (fun hc2 => ?_) (fun hc2 => ?_)
    · have h := h.1 hc2
      refine r_iconst (y := m5_partsOf) (v := 0) dX5_partsOf_21 (by decide) ?_
      exact r_iret (y := m5_partsOf) dX5_partsOf_22 rfl rfl h
    · have h := h.2 hc2
      refine r_aload_n (y := m5_partsOf) dX5_partsOf_12 rfl rfl ?_
      refine g_X5_9 (y := m5_partsOf) rfl dX5_partsOf_13 hm ?_
      refine r_iload_n (y := m5_partsOf) dX5_partsOf_16 rfl rfl ?_
      obtain ⟨hb3, h⟩ := h
      refine r_iald (y := m5_partsOf) (n := 8) dX5_partsOf_17 (sa_8 hm) hb3 ?_
      refine r_goto (y := m5_partsOf) (tgt := 22) dX5_partsOf_18 (by decide) ?_
      exact r_iret (y := m5_partsOf) dX5_partsOf_22 rfl rfl h
set_option maxHeartbeats 4000000 in
set_option maxRecDepth 100000 in
theorem w5_rulesOf {m : Mm} {K : Option Value ⊕ String → Mm → Prop} (hm : St m) {a0 : Int32}  (h : ((a0 < 0 → K (.inl (some (.int 0))) m) ∧ (¬ a0 < 0 → (((mI m 7 4) ≤ a0 → K (.inl (some (.int 0))) m) ∧ (¬ (mI m 7 4) ≤ a0 → vp_in a0 8 ∧ K (.inl (some (.int (mI m 10 (Int32.toNatClampNeg a0))))) m))))) : V m5_rulesOf 0 [some (.ref 7), some (.int a0)] [] m K := by
  refine r_iload_n (y := m5_rulesOf) dX5_rulesOf_0 rfl rfl ?_
  refine r_if_lt (y := m5_rulesOf) (tgt := 21) dX5_rulesOf_1 (by decide) (fun hc1 => ?_) (fun hc1 => ?_)
  · have h := h.1 hc1
    refine r_iconst (y := m5_rulesOf) (v := 0) dX5_rulesOf_21 (by decide) ?_
    exact r_iret (y := m5_rulesOf) dX5_rulesOf_22 rfl rfl h
  · have h := h.2 hc1
    refine r_iload_n (y := m5_rulesOf) dX5_rulesOf_4 rfl rfl ?_
    refine r_aload_n (y := m5_rulesOf) dX5_rulesOf_5 rfl rfl ?_
    refine g_X5_28 (y := m5_rulesOf) rfl dX5_rulesOf_6 hm ?_
    refine r_icmp_ge (y := m5_rulesOf) (tgt := 21) dX5_rulesOf_9 (by decide) (fun hc2 => ?_) (fun hc2 => ?_)
    · have h := h.1 hc2
      refine r_iconst (y := m5_rulesOf) (v := 0) dX5_rulesOf_21 (by decide) ?_
      exact r_iret (y := m5_rulesOf) dX5_rulesOf_22 rfl rfl h
    · have h := h.2 hc2
      refine r_aload_n (y := m5_rulesOf) dX5_rulesOf_12 rfl rfl ?_
      refine g_X5_19 (y := m5_rulesOf) rfl dX5_rulesOf_13 hm ?_
      refine r_iload_n (y := m5_rulesOf) dX5_rulesOf_16 rfl rfl ?_
      obtain ⟨hb3, h⟩ := h
      refine r_iald (y := m5_rulesOf) (n := 8) dX5_rulesOf_17 (sa_10 hm) hb3 ?_
      refine r_goto (y := m5_rulesOf) (tgt := 22) dX5_rulesOf_18 (by decide) ?_
      exact r_iret (y := m5_rulesOf) dX5_rulesOf_22 rfl rfl h
set_option maxHeartbeats 4000000 in
set_option maxRecDepth 100000 in
theorem w5_ruleOf {m : Mm} {K : Option Value ⊕ String → Mm → Prop} (hm : St m) {a0 : Int32} {a1 : Int32}  (h : ((a1 < 0 → K (.inl (some (va_rf none))) m) ∧ (¬ a1 < 0 → C m5_rulesOf [(.ref 7), (.int a0)] m (fun o m2 => ∃ x4 : Int32, o = .inl (some (.int x4)) ∧ St m2 ∧ ((x4 ≤ a1 → K (.inl (some (va_rf none))) m2) ∧ (¬ x4 ≤ a1 → vp_in ((a0 * 24) + a1) 192 ∧ ((mR m2 11 (Int32.toNatClampNeg ((a0 * 24) + a1)) = none → K (.inl (some (va_rf none))) m2) ∧ (∀ q7 : Nat, mR m2 11 (Int32.toNatClampNeg ((a0 * 24) + a1)) = some q7 → K (.inl (some (va_rf (some q7)))) m2)))))))) : V m5_ruleOf 0 [some (.ref 7), some (.int a0), some (.int a1)] [] m K := by
  refine r_iload_n (y := m5_ruleOf) dX5_ruleOf_0 rfl rfl ?_
  refine r_if_lt (y := m5_ruleOf) (tgt := 27) dX5_ruleOf_1 (by decide) (fun hc1 => ?_) (fun hc1 => ?_)
  · have h := h.1 hc1
    refine r_null (y := m5_ruleOf) dX5_ruleOf_27 ?_
    exact r_aret (y := m5_ruleOf) (r := none) dX5_ruleOf_28 rfl (Or.inl ⟨_, rfl⟩) h
  · have h := h.2 hc1
    refine r_iload_n (y := m5_ruleOf) dX5_ruleOf_4 rfl rfl ?_
    refine r_aload_n (y := m5_ruleOf) dX5_ruleOf_5 rfl rfl ?_
    refine r_iload_n (y := m5_ruleOf) dX5_ruleOf_6 rfl rfl ?_
    refine r_callV (y := m5_ruleOf) (As := [(.int a0)]) (b := 7) (ci := 5) dX5_ruleOf_7 rfl k5_rulesOf lm_X5_35 rfl ⟨by decide, by decide⟩ (so_7 hm) (by decide) rfl (Nat.le_of_ble_eq_true rfl) (C.mono h ?_)
    rintro _ m2 ⟨x4, rfl, hm3, h⟩
    refine ⟨_, rfl, ?_⟩
    refine r_icmp_ge (y := m5_ruleOf) (tgt := 27) dX5_ruleOf_10 (by decide) (fun hc5 => ?_) (fun hc5 => ?_)
    · have h := h.1 hc5
      refine r_null (y := m5_ruleOf) dX5_ruleOf_27 ?_
      exact r_aret (y := m5_ruleOf) (r := none) dX5_ruleOf_28 rfl (Or.inl ⟨_, rfl⟩) h
    · have h := h.2 hc5
      refine r_aload_n (y := m5_ruleOf) dX5_ruleOf_13 rfl rfl ?_
      refine g_X5_24 (y := m5_ruleOf) rfl dX5_ruleOf_14 hm3 ?_
      refine r_iload_n (y := m5_ruleOf) dX5_ruleOf_17 rfl rfl ?_
      refine r_bipush (y := m5_ruleOf) (v := 24) dX5_ruleOf_18 (by decide) ?_
      refine r_imul (y := m5_ruleOf) dX5_ruleOf_20 ?_
      refine r_iload_n (y := m5_ruleOf) dX5_ruleOf_21 rfl rfl ?_
      refine r_iadd (y := m5_ruleOf) dX5_ruleOf_22 ?_
      obtain ⟨hb6, h⟩ := h
      rcases hq8 : mR m2 11 (Int32.toNatClampNeg ((a0 * 24) + a1)) with _ | q7
      · have h := h.1 hq8
        refine r_aald (y := m5_ruleOf) (n := 192) (r := none) dX5_ruleOf_23 (sa_11 hm3) (by decide) (by decide) hb6 hq8 ?_
        refine r_goto (y := m5_ruleOf) (tgt := 28) dX5_ruleOf_24 (by decide) ?_
        exact r_aret (y := m5_ruleOf) (r := none) dX5_ruleOf_28 rfl (Or.inl ⟨_, rfl⟩) h
      · have h := h.2 q7 hq8
        refine r_aald (y := m5_ruleOf) (n := 192) (r := some q7) dX5_ruleOf_23 (sa_11 hm3) (by decide) (by decide) hb6 hq8 ?_
        refine r_goto (y := m5_ruleOf) (tgt := 28) dX5_ruleOf_24 (by decide) ?_
        exact r_aret (y := m5_ruleOf) (r := (some q7)) dX5_ruleOf_28 rfl (Or.inl ⟨_, rfl⟩) h
set_option maxHeartbeats 4000000 in
set_option maxRecDepth 100000 in
theorem w5_addRule {m : Mm} {K : Option Value ⊕ String → Mm → Prop} (hm : St m) {a0 : Int32} {e1 : Nat} (he1 : isRul m e1) (h : vp_in a0 8 ∧ vp_in ((a0 * 24) + (mI m 10 (Int32.toNatClampNeg a0))) 192 ∧ St (mSetR m 11 (Int32.toNatClampNeg ((a0 * 24) + (mI m 10 (Int32.toNatClampNeg a0)))) (some e1)) ∧ vp_in a0 8 ∧ K (.inl (some (.int (mI m 10 (Int32.toNatClampNeg a0))))) (mSetI (mSetI (mSetR m 11 (Int32.toNatClampNeg ((a0 * 24) + (mI m 10 (Int32.toNatClampNeg a0)))) (some e1)) 10 (Int32.toNatClampNeg a0) ((mI m 10 (Int32.toNatClampNeg a0)) + 1)) 7 5 ((mI m 7 5) + 1))) : V m5_addRule 0 [some (.ref 7), some (.int a0), some (.ref e1), none] [] m K := by
  refine r_aload_n (y := m5_addRule) dX5_addRule_0 rfl rfl ?_
  refine g_X5_19 (y := m5_addRule) rfl dX5_addRule_1 hm ?_
  refine r_iload_n (y := m5_addRule) dX5_addRule_4 rfl rfl ?_
  obtain ⟨hb1, h⟩ := h
  refine r_iald (y := m5_addRule) (n := 8) dX5_addRule_5 (sa_10 hm) hb1 ?_
  refine r_istore_n (y := m5_addRule) (L' := [some (.ref 7), some (.int a0), some (.ref e1), some (.int (mI m 10 (Int32.toNatClampNeg a0)))]) dX5_addRule_6 rfl (Nat.le_of_ble_eq_true rfl) rfl ?_
  refine r_aload_n (y := m5_addRule) dX5_addRule_7 rfl rfl ?_
  refine g_X5_24 (y := m5_addRule) rfl dX5_addRule_8 hm ?_
  refine r_iload_n (y := m5_addRule) dX5_addRule_11 rfl rfl ?_
  refine r_bipush (y := m5_addRule) (v := 24) dX5_addRule_12 (by decide) ?_
  refine r_imul (y := m5_addRule) dX5_addRule_14 ?_
  refine r_iload_n (y := m5_addRule) dX5_addRule_15 rfl rfl ?_
  refine r_iadd (y := m5_addRule) dX5_addRule_16 ?_
  refine r_aload_n (y := m5_addRule) dX5_addRule_17 rfl rfl ?_
  obtain ⟨hb2, h⟩ := h
  refine r_aast (y := m5_addRule) (n := 192) dX5_addRule_18 (sa_11 hm) (by decide) (by decide) (congrArg Prod.fst he1) hb2 ?_
  obtain ⟨hm3, h⟩ := h
  refine r_aload_n (y := m5_addRule) dX5_addRule_19 rfl rfl ?_
  refine g_X5_19 (y := m5_addRule) rfl dX5_addRule_20 hm3 ?_
  refine r_iload_n (y := m5_addRule) dX5_addRule_23 rfl rfl ?_
  refine r_iload_n (y := m5_addRule) dX5_addRule_24 rfl rfl ?_
  refine r_iconst (y := m5_addRule) (v := 1) dX5_addRule_25 (by decide) ?_
  refine r_iadd (y := m5_addRule) dX5_addRule_26 ?_
  obtain ⟨hb4, h⟩ := h
  refine r_iast (y := m5_addRule) (n := 8) dX5_addRule_27 (sa_10 hm3) hb4 ?_
  refine r_aload_n (y := m5_addRule) dX5_addRule_28 rfl rfl ?_
  refine r_dup_r (y := m5_addRule) dX5_addRule_29 ?_
  refine g_X5_32 (y := m5_addRule) rfl dX5_addRule_30 (St.i hm3) ?_
  refine V.top (b := (mI m 7 5)) (by first | rfl | simp [mI_set, mI_setR]) ?_
  refine r_iconst (y := m5_addRule) (v := 1) dX5_addRule_33 (by decide) ?_
  refine r_iadd (y := m5_addRule) dX5_addRule_34 ?_
  refine p_X5_32 (y := m5_addRule) rfl dX5_addRule_35 (St.i hm3) ?_
  refine r_iload_n (y := m5_addRule) dX5_addRule_38 rfl rfl ?_
  exact r_iret (y := m5_addRule) dX5_addRule_39 rfl rfl h
set_option maxHeartbeats 4000000 in
set_option maxRecDepth 100000 in
theorem w5_takeLastRule {m : Mm} {K : Option Value ⊕ String → Mm → Prop} (hm : St m) {a0 : Int32}  (h : vp_in a0 8 ∧ vp_in ((a0 * 24) + ((mI m 10 (Int32.toNatClampNeg a0)) - 1)) 192 ∧ St (mSetR m 11 (Int32.toNatClampNeg ((a0 * 24) + ((mI m 10 (Int32.toNatClampNeg a0)) - 1))) none) ∧ vp_in a0 8 ∧ K (.inl (some (.int ((mI m 10 (Int32.toNatClampNeg a0)) - 1)))) (mSetI (mSetI (mSetR m 11 (Int32.toNatClampNeg ((a0 * 24) + ((mI m 10 (Int32.toNatClampNeg a0)) - 1))) none) 10 (Int32.toNatClampNeg a0) ((mI m 10 (Int32.toNatClampNeg a0)) - 1)) 7 5 ((mI m 7 5) - 1))) : V m5_takeLastRule 0 [some (.ref 7), some (.int a0), none] [] m K := by
  refine r_aload_n (y := m5_takeLastRule) dX5_takeLastRule_0 rfl rfl ?_
  refine g_X5_19 (y := m5_takeLastRule) rfl dX5_takeLastRule_1 hm ?_
  refine r_iload_n (y := m5_takeLastRule) dX5_takeLastRule_4 rfl rfl ?_
  obtain ⟨hb1, h⟩ := h
  refine r_iald (y := m5_takeLastRule) (n := 8) dX5_takeLastRule_5 (sa_10 hm) hb1 ?_
  refine r_iconst (y := m5_takeLastRule) (v := 1) dX5_takeLastRule_6 (by decide) ?_
  refine r_isub (y := m5_takeLastRule) dX5_takeLastRule_7 ?_
  refine r_istore_n (y := m5_takeLastRule) (L' := [some (.ref 7), some (.int a0), some (.int ((mI m 10 (Int32.toNatClampNeg a0)) - 1))]) dX5_takeLastRule_8 rfl (Nat.le_of_ble_eq_true rfl) rfl ?_
  refine r_aload_n (y := m5_takeLastRule) dX5_takeLastRule_9 rfl rfl ?_
  refine g_X5_24 (y := m5_takeLastRule) rfl dX5_takeLastRule_10 hm ?_
  refine r_iload_n (y := m5_takeLastRule) dX5_takeLastRule_13 rfl rfl ?_
  refine r_bipush (y := m5_takeLastRule) (v := 24) dX5_takeLastRule_14 (by decide) ?_
  refine r_imul (y := m5_takeLastRule) dX5_takeLastRule_16 ?_
  refine r_iload_n (y := m5_takeLastRule) dX5_takeLastRule_17 rfl rfl ?_
  refine r_iadd (y := m5_takeLastRule) dX5_takeLastRule_18 ?_
  refine r_null (y := m5_takeLastRule) dX5_takeLastRule_19 ?_
  obtain ⟨hb2, h⟩ := h
  refine r_aast0 (y := m5_takeLastRule) (n := 192) dX5_takeLastRule_20 (sa_11 hm) (by decide) (by decide) hb2 ?_
  obtain ⟨hm3, h⟩ := h
  refine r_aload_n (y := m5_takeLastRule) dX5_takeLastRule_21 rfl rfl ?_
  refine g_X5_19 (y := m5_takeLastRule) rfl dX5_takeLastRule_22 hm3 ?_
  refine r_iload_n (y := m5_takeLastRule) dX5_takeLastRule_25 rfl rfl ?_
  refine r_iload_n (y := m5_takeLastRule) dX5_takeLastRule_26 rfl rfl ?_
  obtain ⟨hb4, h⟩ := h
  refine r_iast (y := m5_takeLastRule) (n := 8) dX5_takeLastRule_27 (sa_10 hm3) hb4 ?_
  refine r_aload_n (y := m5_takeLastRule) dX5_takeLastRule_28 rfl rfl ?_
  refine r_dup_r (y := m5_takeLastRule) dX5_takeLastRule_29 ?_
  refine g_X5_32 (y := m5_takeLastRule) rfl dX5_takeLastRule_30 (St.i hm3) ?_
  refine V.top (b := (mI m 7 5)) (by first | rfl | simp [mI_set, mI_setR]) ?_
  refine r_iconst (y := m5_takeLastRule) (v := 1) dX5_takeLastRule_33 (by decide) ?_
  refine r_isub (y := m5_takeLastRule) dX5_takeLastRule_34 ?_
  refine p_X5_32 (y := m5_takeLastRule) rfl dX5_takeLastRule_35 (St.i hm3) ?_
  refine r_iload_n (y := m5_takeLastRule) dX5_takeLastRule_38 rfl rfl ?_
  exact r_iret (y := m5_takeLastRule) dX5_takeLastRule_39 rfl rfl h
set_option maxHeartbeats 4000000 in
set_option maxRecDepth 100000 in
theorem w5_findMany {m : Mm} {K : Option Value ⊕ String → Mm → Prop} (hm : St m)   (h : V m5_findMany 4 [some (.ref 7), some (.int 0), some (.int 0), none] [] m K) : V m5_findMany 0 [some (.ref 7), none, none, none] [] m K := by
  refine r_iconst (y := m5_findMany) (v := 0) dX5_findMany_0 (by decide) ?_
  refine r_istore_n (y := m5_findMany) (L' := [some (.ref 7), some (.int 0), none, none]) dX5_findMany_1 rfl (Nat.le_of_ble_eq_true rfl) rfl ?_
  refine r_iconst (y := m5_findMany) (v := 0) dX5_findMany_2 (by decide) ?_
  refine r_istore_n (y := m5_findMany) (L' := [some (.ref 7), some (.int 0), some (.int 0), none]) dX5_findMany_3 rfl (Nat.le_of_ble_eq_true rfl) rfl ?_
  exact h
set_option maxHeartbeats 4000000 in
set_option maxRecDepth 100000 in
theorem w5_findMany_4 {m : Mm} {K : Option Value ⊕ String → Mm → Prop} (hm : St m) {v1 : Int32} {v2 : Int32}  (h : (((mI m 7 4) ≤ v2 → K (.inl (some (.int v1))) m) ∧ (¬ (mI m 7 4) ≤ v2 → V m5_findMany 14 [some (.ref 7), some (.int v1), some (.int v2), some (.int 0)] [] m K))) : V m5_findMany 4 [some (.ref 7), some (.int v1), some (.int v2), none] [] m K := by
  refine r_iload_n (y := m5_findMany) dX5_findMany_4 rfl rfl ?_
  refine r_aload_n (y := m5_findMany) dX5_findMany_5 rfl rfl ?_
  refine g_X5_28 (y := m5_findMany) rfl dX5_findMany_6 hm ?_
  refine r_icmp_ge (y := m5_findMany) (tgt := 49) dX5_findMany_9 (by decide) (fun hc1 => ?_) (fun hc1 => ?_)
  · have h := h.1 hc1
    refine r_iload_n (y := m5_findMany) dX5_findMany_49 rfl rfl ?_
    exact r_iret (y := m5_findMany) dX5_findMany_50 rfl rfl h
  · have h := h.2 hc1
    refine r_iconst (y := m5_findMany) (v := 0) dX5_findMany_12 (by decide) ?_
    refine r_istore_n (y := m5_findMany) (L' := [some (.ref 7), some (.int v1), some (.int v2), some (.int 0)]) dX5_findMany_13 rfl (Nat.le_of_ble_eq_true rfl) rfl ?_
    exact h
set_option maxHeartbeats 4000000 in
set_option maxRecDepth 100000 in
theorem w5_findMany_14 {m : Mm} {K : Option Value ⊕ String → Mm → Prop} (hm : St m) {v1 : Int32} {v2 : Int32} {v3 : Int32}  (h : (((mI m 7 4) ≤ v3 → V m5_findMany 4 [some (.ref 7), some (.int v1), some (.int (v2 + 1)), some (.int v3)] [] m K) ∧ (¬ (mI m 7 4) ≤ v3 → C m5_isMany [(.ref 7), (.int v3), (.int v1)] m (fun o m2 => ∃ x4 : Int32, o = .inl (some (.int x4)) ∧ St m2 ∧ ((x4 = 0 → V m5_findMany 14 [some (.ref 7), some (.int v1), some (.int v2), some (.int (v3 + 1))] [] m2 K) ∧ (¬ x4 = 0 → V m5_findMany 14 [some (.ref 7), some (.int (v1 ||| (1 <<< (v3 &&& 31)))), some (.int v2), some (.int (v3 + 1))] [] m2 K)))))) : V m5_findMany 14 [some (.ref 7), some (.int v1), some (.int v2), some (.int v3)] [] m K := by
  refine r_iload_n (y := m5_findMany) dX5_findMany_14 rfl rfl ?_
  refine r_aload_n (y := m5_findMany) dX5_findMany_15 rfl rfl ?_
  refine g_X5_28 (y := m5_findMany) rfl dX5_findMany_16 hm ?_
  refine r_icmp_ge (y := m5_findMany) (tgt := 43) dX5_findMany_19 (by decide) (fun hc1 => ?_) (fun hc1 => ?_)
  · have h := h.1 hc1
    refine r_iinc (y := m5_findMany) (v := (v2 + 1)) (L' := [some (.ref 7), some (.int v1), some (.int (v2 + 1)), some (.int v3)]) dX5_findMany_43 rfl (by rfl) rfl ?_
    refine r_goto (y := m5_findMany) (tgt := 4) dX5_findMany_46 (by decide) ?_
    exact h
  · have h := h.2 hc1
    refine r_aload_n (y := m5_findMany) dX5_findMany_22 rfl rfl ?_
    refine r_iload_n (y := m5_findMany) dX5_findMany_23 rfl rfl ?_
    refine r_iload_n (y := m5_findMany) dX5_findMany_24 rfl rfl ?_
    refine r_callV (y := m5_findMany) (As := [(.int v3), (.int v1)]) (b := 7) (ci := 5) dX5_findMany_25 rfl k5_isMany lm_X5_39 rfl ⟨by decide, by decide⟩ (so_7 hm) (by decide) rfl (Nat.le_of_ble_eq_true rfl) (C.mono h ?_)
    rintro _ m2 ⟨x4, rfl, hm3, h⟩
    refine ⟨_, rfl, ?_⟩
    refine r_if_eq (y := m5_findMany) (tgt := 37) dX5_findMany_28 (by decide) (fun hc5 => ?_) (fun hc5 => ?_)
    · have h := h.1 hc5
      refine r_iinc (y := m5_findMany) (v := (v3 + 1)) (L' := [some (.ref 7), some (.int v1), some (.int v2), some (.int (v3 + 1))]) dX5_findMany_37 rfl (by rfl) rfl ?_
      refine r_goto (y := m5_findMany) (tgt := 14) dX5_findMany_40 (by decide) ?_
      exact h
    · have h := h.2 hc5
      refine r_iload_n (y := m5_findMany) dX5_findMany_31 rfl rfl ?_
      refine r_iconst (y := m5_findMany) (v := 1) dX5_findMany_32 (by decide) ?_
      refine r_iload_n (y := m5_findMany) dX5_findMany_33 rfl rfl ?_
      refine r_ishl (y := m5_findMany) dX5_findMany_34 ?_
      refine r_ior (y := m5_findMany) dX5_findMany_35 ?_
      refine r_istore_n (y := m5_findMany) (L' := [some (.ref 7), some (.int (v1 ||| (1 <<< (v3 &&& 31)))), some (.int v2), some (.int v3)]) dX5_findMany_36 rfl (Nat.le_of_ble_eq_true rfl) rfl ?_
      refine r_iinc (y := m5_findMany) (v := (v3 + 1)) (L' := [some (.ref 7), some (.int (v1 ||| (1 <<< (v3 &&& 31)))), some (.int v2), some (.int (v3 + 1))]) dX5_findMany_37 rfl (by rfl) rfl ?_
      refine r_goto (y := m5_findMany) (tgt := 14) dX5_findMany_40 (by decide) ?_
      exact h
set_option maxHeartbeats 4000000 in
set_option maxRecDepth 100000 in
theorem w5_isMany {m : Mm} {K : Option Value ⊕ String → Mm → Prop} (hm : St m) {a0 : Int32} {a1 : Int32}  (h : V m5_isMany 2 [some (.ref 7), some (.int a0), some (.int a1), some (.int 0), none] [] m K) : V m5_isMany 0 [some (.ref 7), some (.int a0), some (.int a1), none, none] [] m K := by
  refine r_iconst (y := m5_isMany) (v := 0) dX5_isMany_0 (by decide) ?_
  refine r_istore_n (y := m5_isMany) (L' := [some (.ref 7), some (.int a0), some (.int a1), some (.int 0), none]) dX5_isMany_1 rfl (Nat.le_of_ble_eq_true rfl) rfl ?_
  exact h
set_option maxHeartbeats 4000000 in
set_option maxRecDepth 100000 in
theorem w5_isMany_2 {m : Mm} {K : Option Value ⊕ String → Mm → Prop} (hm : St m) {v1 : Int32} {v2 : Int32} {v3 : Int32}  (h : vp_in v1 8 ∧ (((mI m 10 (Int32.toNatClampNeg v1)) ≤ v3 → K (.inl (some (.int 0))) m) ∧ (¬ (mI m 10 (Int32.toNatClampNeg v1)) ≤ v3 → C m5_ruleOf [(.ref 7), (.int v1), (.int v3)] m (fun o m3 => ∃ z5 : Option Nat, o = .inl (some (va_rf z5)) ∧ St m3 ∧ (z5 = none → V m5_isMany 2 [some (.ref 7), some (.int v1), some (.int v2), some (.int (v3 + 1)), some .null] [] m3 K) ∧ (∀ q6 : Nat, z5 = some q6 → isRul m3 q6 ∧ ∃ q8 : Nat, mR m3 q6 2 = some q8 ∧ ∃ n11 : Nat, isExp m3 q8 n11 ∧ C m0_isMany [(.ref q8), (.int (mI m3 q6 3)), (.int v2)] m3 (fun o m12 => ∃ x14 : Int32, o = .inl (some (.int x14)) ∧ St m12 ∧ ((¬ x14 = 0 → K (.inl (some (.int 1))) m12) ∧ (x14 = 0 → C m5_meetsEarlier [(.ref 7), (.int v1), (.int v3), (.ref q6)] m12 (fun o m16 => ∃ x18 : Int32, o = .inl (some (.int x18)) ∧ St m16 ∧ ((x18 = 0 → V m5_isMany 2 [some (.ref 7), some (.int v1), some (.int v2), some (.int (v3 + 1)), some (.ref q6)] [] m16 K) ∧ (¬ x18 = 0 → K (.inl (some (.int 1))) m16))))))))))) : V m5_isMany 2 [some (.ref 7), some (.int v1), some (.int v2), some (.int v3), none] [] m K := by
  refine r_iload_n (y := m5_isMany) dX5_isMany_2 rfl rfl ?_
  refine r_aload_n (y := m5_isMany) dX5_isMany_3 rfl rfl ?_
  refine g_X5_19 (y := m5_isMany) rfl dX5_isMany_4 hm ?_
  refine r_iload_n (y := m5_isMany) dX5_isMany_7 rfl rfl ?_
  obtain ⟨hb1, h⟩ := h
  refine r_iald (y := m5_isMany) (n := 8) dX5_isMany_8 (sa_10 hm) hb1 ?_
  refine r_icmp_ge (y := m5_isMany) (tgt := 61) dX5_isMany_9 (by decide) (fun hc2 => ?_) (fun hc2 => ?_)
  · have h := h.1 hc2
    refine r_iconst (y := m5_isMany) (v := 0) dX5_isMany_61 (by decide) ?_
    exact r_iret (y := m5_isMany) (ty := .boolean) dX5_isMany_62 rfl (by decide) h
  · have h := h.2 hc2
    refine r_aload_n (y := m5_isMany) dX5_isMany_12 rfl rfl ?_
    refine r_iload_n (y := m5_isMany) dX5_isMany_13 rfl rfl ?_
    refine r_iload_n (y := m5_isMany) dX5_isMany_14 rfl rfl ?_
    refine r_callV (y := m5_isMany) (As := [(.int v1), (.int v3)]) (b := 7) (ci := 5) dX5_isMany_15 rfl k5_ruleOf lm_X5_43 rfl ⟨by decide, by decide⟩ (so_7 hm) (by decide) rfl (Nat.le_of_ble_eq_true rfl) (C.mono h ?_)
    rintro _ m3 ⟨z5, rfl, hm4, h⟩
    refine ⟨_, rfl, ?_⟩
    rcases z5 with _ | q6
    · have h := h.1 rfl
      refine r_astoreN (y := m5_isMany) (L' := [some (.ref 7), some (.int v1), some (.int v2), some (.int v3), some .null]) dX5_isMany_18 (Nat.le_of_ble_eq_true rfl) rfl ?_
      refine r_aloadN (y := m5_isMany) dX5_isMany_20 rfl ?_
      refine r_ifnullN (y := m5_isMany) (tgt := 55) dX5_isMany_22 (by decide) ?_
      refine r_iinc (y := m5_isMany) (v := (v3 + 1)) (L' := [some (.ref 7), some (.int v1), some (.int v2), some (.int (v3 + 1)), some .null]) dX5_isMany_55 rfl (by rfl) rfl ?_
      refine r_goto (y := m5_isMany) (tgt := 2) dX5_isMany_58 (by decide) ?_
      exact h
    · have h := h.2 q6 rfl
      refine r_astore (y := m5_isMany) (L' := [some (.ref 7), some (.int v1), some (.int v2), some (.int v3), some (.ref q6)]) dX5_isMany_18 (Nat.le_of_ble_eq_true rfl) rfl ?_
      refine r_aload (y := m5_isMany) dX5_isMany_20 rfl ?_
      refine r_ifnull (y := m5_isMany) dX5_isMany_22 ?_
      refine r_aload (y := m5_isMany) dX5_isMany_25 rfl ?_
      obtain ⟨hx7, h⟩ := h
      obtain ⟨q8, hq9, h⟩ := h
      refine g_X5_47 (y := m5_isMany) rfl dX5_isMany_27 hx7 (q := some q8) hq9 ?_
      refine r_aload (y := m5_isMany) dX5_isMany_30 rfl ?_
      refine g_X5_51 (y := m5_isMany) rfl dX5_isMany_32 hx7 ?_
      refine r_iload_n (y := m5_isMany) dX5_isMany_35 rfl rfl ?_
      obtain ⟨n11, hx10, h⟩ := h
      refine r_callVN (y := m5_isMany) (As := [(.int (mI m3 q6 3)), (.int v2)]) (b := q8) (ci := 0) dX5_isMany_36 rfl k0_isMany lm_X5_54 rfl ⟨by decide, by decide⟩ (congrArg Prod.fst hx10.1) (by decide) rfl (Nat.le_of_ble_eq_true rfl) (C.mono h ?_)
      rintro _ m12 ⟨x14, rfl, hm13, h⟩
      refine ⟨_, rfl, ?_⟩
      refine r_if_ne (y := m5_isMany) (tgt := 53) dX5_isMany_39 (by decide) (fun hc15 => ?_) (fun hc15 => ?_)
      · have h := h.1 hc15
        refine r_iconst (y := m5_isMany) (v := 1) dX5_isMany_53 (by decide) ?_
        exact r_iret (y := m5_isMany) (ty := .boolean) dX5_isMany_54 rfl (by decide) h
      · have h := h.2 hc15
        refine r_aload_n (y := m5_isMany) dX5_isMany_42 rfl rfl ?_
        refine r_iload_n (y := m5_isMany) dX5_isMany_43 rfl rfl ?_
        refine r_iload_n (y := m5_isMany) dX5_isMany_44 rfl rfl ?_
        refine r_aload (y := m5_isMany) dX5_isMany_45 rfl ?_
        refine r_callV (y := m5_isMany) (As := [(.int v1), (.int v3), (.ref q6)]) (b := 7) (ci := 5) dX5_isMany_47 rfl k5_meetsEarlier lm_X5_57 rfl ⟨by decide, by decide⟩ (so_7 hm13) (by decide) rfl (Nat.le_of_ble_eq_true rfl) (C.mono h ?_)
        rintro _ m16 ⟨x18, rfl, hm17, h⟩
        refine ⟨_, rfl, ?_⟩
        refine r_if_eq (y := m5_isMany) (tgt := 55) dX5_isMany_50 (by decide) (fun hc19 => ?_) (fun hc19 => ?_)
        · have h := h.1 hc19
          refine r_iinc (y := m5_isMany) (v := (v3 + 1)) (L' := [some (.ref 7), some (.int v1), some (.int v2), some (.int (v3 + 1)), some (.ref q6)]) dX5_isMany_55 rfl (by rfl) rfl ?_
          refine r_goto (y := m5_isMany) (tgt := 2) dX5_isMany_58 (by decide) ?_
          exact h
        · have h := h.2 hc19
          refine r_iconst (y := m5_isMany) (v := 1) dX5_isMany_53 (by decide) ?_
          exact r_iret (y := m5_isMany) (ty := .boolean) dX5_isMany_54 rfl (by decide) h
set_option maxHeartbeats 4000000 in
set_option maxRecDepth 100000 in
theorem w5_meetsEarlier {m : Mm} {K : Option Value ⊕ String → Mm → Prop} (hm : St m) {a0 : Int32} {a1 : Int32} {e2 : Nat} (he2 : isRul m e2) (h : V m5_meetsEarlier 3 [some (.ref 7), some (.int a0), some (.int a1), some (.ref e2), some (.int 0), none] [] m K) : V m5_meetsEarlier 0 [some (.ref 7), some (.int a0), some (.int a1), some (.ref e2), none, none] [] m K := by
  refine r_iconst (y := m5_meetsEarlier) (v := 0) dX5_meetsEarlier_0 (by decide) ?_
  refine r_istore (y := m5_meetsEarlier) (L' := [some (.ref 7), some (.int a0), some (.int a1), some (.ref e2), some (.int 0), none]) dX5_meetsEarlier_1 (Nat.le_of_ble_eq_true rfl) rfl ?_
  exact h
set_option maxHeartbeats 4000000 in
set_option maxRecDepth 100000 in
theorem w5_meetsEarlier_3 {m : Mm} {K : Option Value ⊕ String → Mm → Prop} (hm : St m) {v1 : Int32} {v2 : Int32} {ee3 : Nat} {v4 : Int32} (hee3 : isRul m ee3) (h : ((v2 ≤ v4 → K (.inl (some (.int 0))) m) ∧ (¬ v2 ≤ v4 → C m5_ruleOf [(.ref 7), (.int v1), (.int v4)] m (fun o m2 => ∃ z4 : Option Nat, o = .inl (some (va_rf z4)) ∧ St m2 ∧ (z4 = none → V m5_meetsEarlier 3 [some (.ref 7), some (.int v1), some (.int v2), some (.ref ee3), some (.int (v4 + 1)), some .null] [] m2 K) ∧ (∀ q5 : Nat, z4 = some q5 → isRul m2 ee3 ∧ C m6_meets [(.ref ee3), (.ref q5)] m2 (fun o m7 => ∃ x9 : Int32, o = .inl (some (.int x9)) ∧ St m7 ∧ ((x9 = 0 → V m5_meetsEarlier 3 [some (.ref 7), some (.int v1), some (.int v2), some (.ref ee3), some (.int (v4 + 1)), some (.ref q5)] [] m7 K) ∧ (¬ x9 = 0 → K (.inl (some (.int 1))) m7)))))))) : V m5_meetsEarlier 3 [some (.ref 7), some (.int v1), some (.int v2), some (.ref ee3), some (.int v4), none] [] m K := by
  refine r_iload (y := m5_meetsEarlier) dX5_meetsEarlier_3 rfl ?_
  refine r_iload_n (y := m5_meetsEarlier) dX5_meetsEarlier_5 rfl rfl ?_
  refine r_icmp_ge (y := m5_meetsEarlier) (tgt := 40) dX5_meetsEarlier_6 (by decide) (fun hc1 => ?_) (fun hc1 => ?_)
  · have h := h.1 hc1
    refine r_iconst (y := m5_meetsEarlier) (v := 0) dX5_meetsEarlier_40 (by decide) ?_
    exact r_iret (y := m5_meetsEarlier) (ty := .boolean) dX5_meetsEarlier_41 rfl (by decide) h
  · have h := h.2 hc1
    refine r_aload_n (y := m5_meetsEarlier) dX5_meetsEarlier_9 rfl rfl ?_
    refine r_iload_n (y := m5_meetsEarlier) dX5_meetsEarlier_10 rfl rfl ?_
    refine r_iload (y := m5_meetsEarlier) dX5_meetsEarlier_11 rfl ?_
    refine r_callV (y := m5_meetsEarlier) (As := [(.int v1), (.int v4)]) (b := 7) (ci := 5) dX5_meetsEarlier_13 rfl k5_ruleOf lm_X5_43 rfl ⟨by decide, by decide⟩ (so_7 hm) (by decide) rfl (Nat.le_of_ble_eq_true rfl) (C.mono h ?_)
    rintro _ m2 ⟨z4, rfl, hm3, h⟩
    refine ⟨_, rfl, ?_⟩
    rcases z4 with _ | q5
    · have h := h.1 rfl
      refine r_astoreN (y := m5_meetsEarlier) (L' := [some (.ref 7), some (.int v1), some (.int v2), some (.ref ee3), some (.int v4), some .null]) dX5_meetsEarlier_16 (Nat.le_of_ble_eq_true rfl) rfl ?_
      refine r_aloadN (y := m5_meetsEarlier) dX5_meetsEarlier_18 rfl ?_
      refine r_ifnullN (y := m5_meetsEarlier) (tgt := 34) dX5_meetsEarlier_20 (by decide) ?_
      refine r_iinc (y := m5_meetsEarlier) (v := (v4 + 1)) (L' := [some (.ref 7), some (.int v1), some (.int v2), some (.ref ee3), some (.int (v4 + 1)), some .null]) dX5_meetsEarlier_34 rfl (by rfl) rfl ?_
      refine r_goto (y := m5_meetsEarlier) (tgt := 3) dX5_meetsEarlier_37 (by decide) ?_
      exact h
    · have h := h.2 q5 rfl
      refine r_astore (y := m5_meetsEarlier) (L' := [some (.ref 7), some (.int v1), some (.int v2), some (.ref ee3), some (.int v4), some (.ref q5)]) dX5_meetsEarlier_16 (Nat.le_of_ble_eq_true rfl) rfl ?_
      refine r_aload (y := m5_meetsEarlier) dX5_meetsEarlier_18 rfl ?_
      refine r_ifnull (y := m5_meetsEarlier) dX5_meetsEarlier_20 ?_
      refine r_aload_n (y := m5_meetsEarlier) dX5_meetsEarlier_23 rfl rfl ?_
      refine r_aload (y := m5_meetsEarlier) dX5_meetsEarlier_24 rfl ?_
      obtain ⟨hx6, h⟩ := h
      refine r_callVN (y := m5_meetsEarlier) (As := [(.ref q5)]) (b := ee3) (ci := 6) dX5_meetsEarlier_26 rfl k6_meets lm_X5_61 rfl ⟨by decide, by decide⟩ (congrArg Prod.fst hx6) (by decide) rfl (Nat.le_of_ble_eq_true rfl) (C.mono h ?_)
      rintro _ m7 ⟨x9, rfl, hm8, h⟩
      refine ⟨_, rfl, ?_⟩
      refine r_if_eq (y := m5_meetsEarlier) (tgt := 34) dX5_meetsEarlier_29 (by decide) (fun hc10 => ?_) (fun hc10 => ?_)
      · have h := h.1 hc10
        refine r_iinc (y := m5_meetsEarlier) (v := (v4 + 1)) (L' := [some (.ref 7), some (.int v1), some (.int v2), some (.ref ee3), some (.int (v4 + 1)), some (.ref q5)]) dX5_meetsEarlier_34 rfl (by rfl) rfl ?_
        refine r_goto (y := m5_meetsEarlier) (tgt := 3) dX5_meetsEarlier_37 (by decide) ?_
        exact h
      · have h := h.2 hc10
        refine r_iconst (y := m5_meetsEarlier) (v := 1) dX5_meetsEarlier_32 (by decide) ?_
        exact r_iret (y := m5_meetsEarlier) (ty := .boolean) dX5_meetsEarlier_33 rfl (by decide) h
