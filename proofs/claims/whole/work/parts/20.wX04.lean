/-! written by gen/drive.py -/
set_option maxHeartbeats 4000000 in
set_option maxRecDepth 100000 in
theorem w4_has {m : Mm} {K : Option Value ⊕ String → Mm → Prop} (hm : St m) {a0 : Int32}  (h : ((a0 < 0 → K (.inl (some (.int 0))) m) ∧ (¬ a0 < 0 → (((mI m 1 5) ≤ a0 → K (.inl (some (.int 0))) m) ∧ (¬ (mI m 1 5) ≤ a0 → K (.inl (some (.int 1))) m))))) : V m4_has 0 [some (.ref 1), some (.int a0)] [] m K := by
  refine r_iload_n (y := m4_has) dX4_has_0 rfl rfl ?_
  refine r_if_lt (y := m4_has) (tgt := 16) dX4_has_1 (by decide) (fun hc1 => ?_) (fun hc1 => ?_)
  · have h := h.1 hc1
    refine r_iconst (y := m4_has) (v := 0) dX4_has_16 (by decide) ?_
    exact r_iret (y := m4_has) (ty := .boolean) dX4_has_17 rfl (by decide) h
  · have h := h.2 hc1
    refine r_iload_n (y := m4_has) dX4_has_4 rfl rfl ?_
    refine r_aload_n (y := m4_has) dX4_has_5 rfl rfl ?_
    refine g_X4_27 (y := m4_has) rfl dX4_has_6 hm ?_
    refine r_icmp_ge (y := m4_has) (tgt := 16) dX4_has_9 (by decide) (fun hc2 => ?_) (fun hc2 => ?_)
    · have h := h.1 hc2
      refine r_iconst (y := m4_has) (v := 0) dX4_has_16 (by decide) ?_
      exact r_iret (y := m4_has) (ty := .boolean) dX4_has_17 rfl (by decide) h
    · have h := h.2 hc2
      refine r_iconst (y := m4_has) (v := 1) dX4_has_12 (by decide) ?_
      refine r_goto (y := m4_has) (tgt := 17) dX4_has_13 (by decide) ?_
      exact r_iret (y := m4_has) (ty := .boolean) dX4_has_17 rfl (by decide) h
set_option maxHeartbeats 4000000 in
set_option maxRecDepth 100000 in
theorem w4_sizeOf {m : Mm} {K : Option Value ⊕ String → Mm → Prop} (hm : St m) {a0 : Int32}  (h : C m4_has [(.ref 1), (.int a0)] m (fun o m1 => ∃ x3 : Int32, o = .inl (some (.int x3)) ∧ St m1 ∧ ((x3 = 0 → K (.inl (some (.int 0))) m1) ∧ (¬ x3 = 0 → vp_in a0 80 ∧ K (.inl (some (.int (mI m1 6 (Int32.toNatClampNeg a0))))) m1)))) : V m4_sizeOf 0 [some (.ref 1), some (.int a0)] [] m K := by
  refine r_aload_n (y := m4_sizeOf) dX4_sizeOf_0 rfl rfl ?_
  refine r_iload_n (y := m4_sizeOf) dX4_sizeOf_1 rfl rfl ?_
  refine r_callV (y := m4_sizeOf) (As := [(.int a0)]) (b := 1) (ci := 4) dX4_sizeOf_2 rfl k4_has lm_X4_31 rfl ⟨by decide, by decide⟩ (so_1 hm) (by decide) rfl (Nat.le_of_ble_eq_true rfl) (C.mono h ?_)
  rintro _ m1 ⟨x3, rfl, hm2, h⟩
  refine ⟨_, rfl, ?_⟩
  refine r_if_eq (y := m4_sizeOf) (tgt := 17) dX4_sizeOf_5 (by decide) (fun hc4 => ?_) (fun hc4 => ?_)
  · have h := h.1 hc4
    refine r_iconst (y := m4_sizeOf) (v := 0) dX4_sizeOf_17 (by decide) ?_
    exact r_iret (y := m4_sizeOf) dX4_sizeOf_18 rfl rfl h
  · have h := h.2 hc4
    refine r_aload_n (y := m4_sizeOf) dX4_sizeOf_8 rfl rfl ?_
    refine g_X4_24 (y := m4_sizeOf) rfl dX4_sizeOf_9 hm2 ?_
    refine r_iload_n (y := m4_sizeOf) dX4_sizeOf_12 rfl rfl ?_
    obtain ⟨hb5, h⟩ := h
    refine r_iald (y := m4_sizeOf) (n := 80) dX4_sizeOf_13 (sa_6 hm2) hb5 ?_
    refine r_goto (y := m4_sizeOf) (tgt := 18) dX4_sizeOf_14 (by decide) ?_
    exact r_iret (y := m4_sizeOf) dX4_sizeOf_18 rfl rfl h
set_option maxHeartbeats 4000000 in
set_option maxRecDepth 100000 in
theorem w4_hasRoom {m : Mm} {K : Option Value ⊕ String → Mm → Prop} (hm : St m) {a0 : Int32} {a1 : Int32}  (h : ((80 ≤ (mI m 1 5) → K (.inl (some (.int 0))) m) ∧ (¬ 80 ≤ (mI m 1 5) → C m4_sizeOf [(.ref 1), (.int a0)] m (fun o m2 => ∃ x4 : Int32, o = .inl (some (.int x4)) ∧ St m2 ∧ C m4_sizeOf [(.ref 1), (.int a1)] m2 (fun o m5 => ∃ x7 : Int32, o = .inl (some (.int x7)) ∧ St m5 ∧ ((12 < ((1 + x4) + x7) → K (.inl (some (.int 0))) m5) ∧ (¬ 12 < ((1 + x4) + x7) → K (.inl (some (.int 1))) m5))))))) : V m4_hasRoom 0 [some (.ref 1), some (.int a0), some (.int a1)] [] m K := by
  refine r_aload_n (y := m4_hasRoom) dX4_hasRoom_0 rfl rfl ?_
  refine g_X4_27 (y := m4_hasRoom) rfl dX4_hasRoom_1 hm ?_
  refine r_bipush (y := m4_hasRoom) (v := 80) dX4_hasRoom_4 (by decide) ?_
  refine r_icmp_ge (y := m4_hasRoom) (tgt := 31) dX4_hasRoom_6 (by decide) (fun hc1 => ?_) (fun hc1 => ?_)
  · have h := h.1 hc1
    refine r_iconst (y := m4_hasRoom) (v := 0) dX4_hasRoom_31 (by decide) ?_
    exact r_iret (y := m4_hasRoom) (ty := .boolean) dX4_hasRoom_32 rfl (by decide) h
  · have h := h.2 hc1
    refine r_iconst (y := m4_hasRoom) (v := 1) dX4_hasRoom_9 (by decide) ?_
    refine r_aload_n (y := m4_hasRoom) dX4_hasRoom_10 rfl rfl ?_
    refine r_iload_n (y := m4_hasRoom) dX4_hasRoom_11 rfl rfl ?_
    refine r_callV (y := m4_hasRoom) (As := [(.int a0)]) (b := 1) (ci := 4) dX4_hasRoom_12 rfl k4_sizeOf lm_X4_35 rfl ⟨by decide, by decide⟩ (so_1 hm) (by decide) rfl (Nat.le_of_ble_eq_true rfl) (C.mono h ?_)
    rintro _ m2 ⟨x4, rfl, hm3, h⟩
    refine ⟨_, rfl, ?_⟩
    refine r_iadd (y := m4_hasRoom) dX4_hasRoom_15 ?_
    refine r_aload_n (y := m4_hasRoom) dX4_hasRoom_16 rfl rfl ?_
    refine r_iload_n (y := m4_hasRoom) dX4_hasRoom_17 rfl rfl ?_
    refine r_callV (y := m4_hasRoom) (As := [(.int a1)]) (b := 1) (ci := 4) dX4_hasRoom_18 rfl k4_sizeOf lm_X4_35 rfl ⟨by decide, by decide⟩ (so_1 hm3) (by decide) rfl (Nat.le_of_ble_eq_true rfl) (C.mono h ?_)
    rintro _ m5 ⟨x7, rfl, hm6, h⟩
    refine ⟨_, rfl, ?_⟩
    refine r_iadd (y := m4_hasRoom) dX4_hasRoom_21 ?_
    refine r_bipush (y := m4_hasRoom) (v := 12) dX4_hasRoom_22 (by decide) ?_
    refine r_icmp_gt (y := m4_hasRoom) (tgt := 31) dX4_hasRoom_24 (by decide) (fun hc8 => ?_) (fun hc8 => ?_)
    · have h := h.1 hc8
      refine r_iconst (y := m4_hasRoom) (v := 0) dX4_hasRoom_31 (by decide) ?_
      exact r_iret (y := m4_hasRoom) (ty := .boolean) dX4_hasRoom_32 rfl (by decide) h
    · have h := h.2 hc8
      refine r_iconst (y := m4_hasRoom) (v := 1) dX4_hasRoom_27 (by decide) ?_
      refine r_goto (y := m4_hasRoom) (tgt := 32) dX4_hasRoom_28 (by decide) ?_
      exact r_iret (y := m4_hasRoom) (ty := .boolean) dX4_hasRoom_32 rfl (by decide) h
set_option maxHeartbeats 4000000 in
set_option maxRecDepth 100000 in
theorem w4_add {m : Mm} {K : Option Value ⊕ String → Mm → Prop} (hm : St m) {a0 : Int32} {a1 : Int32} {a2 : Int32} {a3 : Int32}  (h : vp_in (mI m 1 5) 80 ∧ vp_in (mI m 1 5) 80 ∧ vp_in (mI m 1 5) 80 ∧ vp_in (mI m 1 5) 80 ∧ C m4_sizeOf [(.ref 1), (.int a2)] (mSetI (mSetI (mSetI (mSetI m 2 (Int32.toNatClampNeg (mI m 1 5)) a0) 3 (Int32.toNatClampNeg (mI m 1 5)) a1) 4 (Int32.toNatClampNeg (mI m 1 5)) a2) 5 (Int32.toNatClampNeg (mI m 1 5)) a3) (fun o m5 => ∃ x7 : Int32, o = .inl (some (.int x7)) ∧ St m5 ∧ C m4_sizeOf [(.ref 1), (.int a3)] m5 (fun o m8 => ∃ x10 : Int32, o = .inl (some (.int x10)) ∧ St m8 ∧ vp_in (mI m 1 5) 80 ∧ K (.inl (some (.int (mI m 1 5)))) (mSetI (mSetI m8 6 (Int32.toNatClampNeg (mI m 1 5)) ((1 + x7) + x10)) 1 5 ((mI m 1 5) + 1))))) : V m4_add 0 [some (.ref 1), some (.int a0), some (.int a1), some (.int a2), some (.int a3), none] [] m K := by
  refine r_aload_n (y := m4_add) dX4_add_0 rfl rfl ?_
  refine g_X4_27 (y := m4_add) rfl dX4_add_1 hm ?_
  refine r_istore (y := m4_add) (L' := [some (.ref 1), some (.int a0), some (.int a1), some (.int a2), some (.int a3), some (.int (mI m 1 5))]) dX4_add_4 (Nat.le_of_ble_eq_true rfl) rfl ?_
  refine r_aload_n (y := m4_add) dX4_add_6 rfl rfl ?_
  refine g_X4_9 (y := m4_add) rfl dX4_add_7 hm ?_
  refine r_iload (y := m4_add) dX4_add_10 rfl ?_
  refine r_iload_n (y := m4_add) dX4_add_12 rfl rfl ?_
  obtain ⟨hb1, h⟩ := h
  refine r_iast (y := m4_add) (n := 80) dX4_add_13 (sa_2 hm) hb1 ?_
  refine r_aload_n (y := m4_add) dX4_add_14 rfl rfl ?_
  refine g_X4_15 (y := m4_add) rfl dX4_add_15 (St.i hm) ?_
  refine r_iload (y := m4_add) dX4_add_18 rfl ?_
  refine r_iload_n (y := m4_add) dX4_add_20 rfl rfl ?_
  obtain ⟨hb2, h⟩ := h
  refine r_iast (y := m4_add) (n := 80) dX4_add_21 (sa_3 (St.i hm)) hb2 ?_
  refine r_aload_n (y := m4_add) dX4_add_22 rfl rfl ?_
  refine g_X4_18 (y := m4_add) rfl dX4_add_23 (St.i (St.i hm)) ?_
  refine r_iload (y := m4_add) dX4_add_26 rfl ?_
  refine r_iload_n (y := m4_add) dX4_add_28 rfl rfl ?_
  obtain ⟨hb3, h⟩ := h
  refine r_iast (y := m4_add) (n := 80) dX4_add_29 (sa_4 (St.i (St.i hm))) hb3 ?_
  refine r_aload_n (y := m4_add) dX4_add_30 rfl rfl ?_
  refine g_X4_21 (y := m4_add) rfl dX4_add_31 (St.i (St.i (St.i hm))) ?_
  refine r_iload (y := m4_add) dX4_add_34 rfl ?_
  refine r_iload (y := m4_add) dX4_add_36 rfl ?_
  obtain ⟨hb4, h⟩ := h
  refine r_iast (y := m4_add) (n := 80) dX4_add_38 (sa_5 (St.i (St.i (St.i hm)))) hb4 ?_
  refine r_aload_n (y := m4_add) dX4_add_39 rfl rfl ?_
  refine g_X4_24 (y := m4_add) rfl dX4_add_40 (St.i (St.i (St.i (St.i hm)))) ?_
  refine r_iload (y := m4_add) dX4_add_43 rfl ?_
  refine r_iconst (y := m4_add) (v := 1) dX4_add_45 (by decide) ?_
  refine r_aload_n (y := m4_add) dX4_add_46 rfl rfl ?_
  refine r_iload_n (y := m4_add) dX4_add_47 rfl rfl ?_
  refine r_callV (y := m4_add) (As := [(.int a2)]) (b := 1) (ci := 4) dX4_add_48 rfl k4_sizeOf lm_X4_35 rfl ⟨by decide, by decide⟩ (so_1 (St.i (St.i (St.i (St.i hm))))) (by decide) rfl (Nat.le_of_ble_eq_true rfl) (C.mono h ?_)
  rintro _ m5 ⟨x7, rfl, hm6, h⟩
  refine ⟨_, rfl, ?_⟩
  refine r_iadd (y := m4_add) dX4_add_51 ?_
  refine r_aload_n (y := m4_add) dX4_add_52 rfl rfl ?_
  refine r_iload (y := m4_add) dX4_add_53 rfl ?_
  refine r_callV (y := m4_add) (As := [(.int a3)]) (b := 1) (ci := 4) dX4_add_55 rfl k4_sizeOf lm_X4_35 rfl ⟨by decide, by decide⟩ (so_1 hm6) (by decide) rfl (Nat.le_of_ble_eq_true rfl) (C.mono h ?_)
  rintro _ m8 ⟨x10, rfl, hm9, h⟩
  refine ⟨_, rfl, ?_⟩
  refine r_iadd (y := m4_add) dX4_add_58 ?_
  obtain ⟨hb11, h⟩ := h
  refine r_iast (y := m4_add) (n := 80) dX4_add_59 (sa_6 hm9) hb11 ?_
  refine r_aload_n (y := m4_add) dX4_add_60 rfl rfl ?_
  refine r_iload (y := m4_add) dX4_add_61 rfl ?_
  refine r_iconst (y := m4_add) (v := 1) dX4_add_63 (by decide) ?_
  refine r_iadd (y := m4_add) dX4_add_64 ?_
  refine p_X4_27 (y := m4_add) rfl dX4_add_65 (St.i hm9) ?_
  refine r_iload (y := m4_add) dX4_add_68 rfl ?_
  exact r_iret (y := m4_add) dX4_add_70 rfl rfl h
