/-! written by gen/drive.py -/
set_option maxHeartbeats 4000000 in
set_option maxRecDepth 100000 in
theorem w10_add {m : Mm} {K : Option Value ⊕ String → Mm → Prop} (hm : St m) {a0 : Int32} {a1 : Int32} {a2 : Int32} {a3 : Int32} {a4 : Int32} {a5 : Int32}  (h : ((3500 ≤ (mI m 13 9) → vp_in 3499 3500 ∧ vp_in 3499 3500 ∧ vp_in 3499 3500 ∧ vp_in 3499 3500 ∧ vp_in 3499 3500 ∧ vp_in 3499 3500 ∧ vp_in 3499 3500 ∧ vp_in 3499 3500 ∧ K (.inl (some (.int 3499))) (mSetI (mSetI (mSetI (mSetI (mSetI (mSetI (mSetI (mSetI (mSetI m 14 3499 a0) 15 3499 a1) 16 3499 a2) 17 3499 a3) 18 3499 a4) 19 3499 a5) 20 3499 0) 21 3499 0) 13 9 (3499 + 1))) ∧ (¬ 3500 ≤ (mI m 13 9) → vp_in (mI m 13 9) 3500 ∧ vp_in (mI m 13 9) 3500 ∧ vp_in (mI m 13 9) 3500 ∧ vp_in (mI m 13 9) 3500 ∧ vp_in (mI m 13 9) 3500 ∧ vp_in (mI m 13 9) 3500 ∧ vp_in (mI m 13 9) 3500 ∧ vp_in (mI m 13 9) 3500 ∧ K (.inl (some (.int (mI m 13 9)))) (mSetI (mSetI (mSetI (mSetI (mSetI (mSetI (mSetI (mSetI (mSetI m 14 (Int32.toNatClampNeg (mI m 13 9)) a0) 15 (Int32.toNatClampNeg (mI m 13 9)) a1) 16 (Int32.toNatClampNeg (mI m 13 9)) a2) 17 (Int32.toNatClampNeg (mI m 13 9)) a3) 18 (Int32.toNatClampNeg (mI m 13 9)) a4) 19 (Int32.toNatClampNeg (mI m 13 9)) a5) 20 (Int32.toNatClampNeg (mI m 13 9)) 0) 21 (Int32.toNatClampNeg (mI m 13 9)) 0) 13 9 ((mI m 13 9) + 1))))) : V m10_add 0 [some (.ref 13), some (.int a0), some (.int a1), some (.int a2), some (.int a3), some (.int a4), some (.int a5), none] [] m K := by
  refine r_aload_n (y := m10_add) dX10_add_0 rfl rfl ?_
  refine g_X10_39 (y := m10_add) rfl dX10_add_1 hm ?_
  refine r_sipush (y := m10_add) (v := 3500) dX10_add_4 (by decide) ?_
  refine r_icmp_ge (y := m10_add) (tgt := 17) dX10_add_7 (by decide) (fun hc1 => ?_) (fun hc1 => ?_)
  · have h := h.1 hc1
    refine r_sipush (y := m10_add) (v := 3499) dX10_add_17 (by decide) ?_
    refine r_istore (y := m10_add) (L' := [some (.ref 13), some (.int a0), some (.int a1), some (.int a2), some (.int a3), some (.int a4), some (.int a5), some (.int 3499)]) dX10_add_20 (Nat.le_of_ble_eq_true rfl) rfl ?_
    refine r_aload_n (y := m10_add) dX10_add_22 rfl rfl ?_
    refine g_X10_9 (y := m10_add) rfl dX10_add_23 hm ?_
    refine r_iload (y := m10_add) dX10_add_26 rfl ?_
    refine r_iload_n (y := m10_add) dX10_add_28 rfl rfl ?_
    obtain ⟨hb2, h⟩ := h
    refine r_iast (y := m10_add) (n := 3500) dX10_add_29 (sa_14 hm) hb2 ?_
    refine r_aload_n (y := m10_add) dX10_add_30 rfl rfl ?_
    refine g_X10_15 (y := m10_add) rfl dX10_add_31 (St.i hm) ?_
    refine r_iload (y := m10_add) dX10_add_34 rfl ?_
    refine r_iload_n (y := m10_add) dX10_add_36 rfl rfl ?_
    obtain ⟨hb3, h⟩ := h
    refine r_iast (y := m10_add) (n := 3500) dX10_add_37 (sa_15 (St.i hm)) hb3 ?_
    refine r_aload_n (y := m10_add) dX10_add_38 rfl rfl ?_
    refine g_X10_18 (y := m10_add) rfl dX10_add_39 (St.i (St.i hm)) ?_
    refine r_iload (y := m10_add) dX10_add_42 rfl ?_
    refine r_iload_n (y := m10_add) dX10_add_44 rfl rfl ?_
    obtain ⟨hb4, h⟩ := h
    refine r_iast (y := m10_add) (n := 3500) dX10_add_45 (sa_16 (St.i (St.i hm))) hb4 ?_
    refine r_aload_n (y := m10_add) dX10_add_46 rfl rfl ?_
    refine g_X10_21 (y := m10_add) rfl dX10_add_47 (St.i (St.i (St.i hm))) ?_
    refine r_iload (y := m10_add) dX10_add_50 rfl ?_
    refine r_iload (y := m10_add) dX10_add_52 rfl ?_
    obtain ⟨hb5, h⟩ := h
    refine r_iast (y := m10_add) (n := 3500) dX10_add_54 (sa_17 (St.i (St.i (St.i hm)))) hb5 ?_
    refine r_aload_n (y := m10_add) dX10_add_55 rfl rfl ?_
    refine g_X10_24 (y := m10_add) rfl dX10_add_56 (St.i (St.i (St.i (St.i hm)))) ?_
    refine r_iload (y := m10_add) dX10_add_59 rfl ?_
    refine r_iload (y := m10_add) dX10_add_61 rfl ?_
    obtain ⟨hb6, h⟩ := h
    refine r_iast (y := m10_add) (n := 3500) dX10_add_63 (sa_18 (St.i (St.i (St.i (St.i hm))))) hb6 ?_
    refine r_aload_n (y := m10_add) dX10_add_64 rfl rfl ?_
    refine g_X10_27 (y := m10_add) rfl dX10_add_65 (St.i (St.i (St.i (St.i (St.i hm))))) ?_
    refine r_iload (y := m10_add) dX10_add_68 rfl ?_
    refine r_iload (y := m10_add) dX10_add_70 rfl ?_
    obtain ⟨hb7, h⟩ := h
    refine r_iast (y := m10_add) (n := 3500) dX10_add_72 (sa_19 (St.i (St.i (St.i (St.i (St.i hm)))))) hb7 ?_
    refine r_aload_n (y := m10_add) dX10_add_73 rfl rfl ?_
    refine g_X10_30 (y := m10_add) rfl dX10_add_74 (St.i (St.i (St.i (St.i (St.i (St.i hm)))))) ?_
    refine r_iload (y := m10_add) dX10_add_77 rfl ?_
    refine r_iconst (y := m10_add) (v := 0) dX10_add_79 (by decide) ?_
    obtain ⟨hb8, h⟩ := h
    refine r_iast (y := m10_add) (n := 3500) dX10_add_80 (sa_20 (St.i (St.i (St.i (St.i (St.i (St.i hm))))))) hb8 ?_
    refine r_aload_n (y := m10_add) dX10_add_81 rfl rfl ?_
    refine g_X10_33 (y := m10_add) rfl dX10_add_82 (St.i (St.i (St.i (St.i (St.i (St.i (St.i hm))))))) ?_
    refine r_iload (y := m10_add) dX10_add_85 rfl ?_
    refine r_iconst (y := m10_add) (v := 0) dX10_add_87 (by decide) ?_
    obtain ⟨hb9, h⟩ := h
    refine r_iast (y := m10_add) (n := 3500) dX10_add_88 (sa_21 (St.i (St.i (St.i (St.i (St.i (St.i (St.i hm)))))))) hb9 ?_
    refine r_aload_n (y := m10_add) dX10_add_89 rfl rfl ?_
    refine r_iload (y := m10_add) dX10_add_90 rfl ?_
    refine r_iconst (y := m10_add) (v := 1) dX10_add_92 (by decide) ?_
    refine r_iadd (y := m10_add) dX10_add_93 ?_
    refine p_X10_39 (y := m10_add) rfl dX10_add_94 (St.i (St.i (St.i (St.i (St.i (St.i (St.i (St.i hm)))))))) ?_
    refine r_iload (y := m10_add) dX10_add_97 rfl ?_
    exact r_iret (y := m10_add) dX10_add_99 rfl rfl h
  · have h := h.2 hc1
    refine r_aload_n (y := m10_add) dX10_add_10 rfl rfl ?_
    refine g_X10_39 (y := m10_add) rfl dX10_add_11 hm ?_
    refine r_goto (y := m10_add) (tgt := 20) dX10_add_14 (by decide) ?_
    refine r_istore (y := m10_add) (L' := [some (.ref 13), some (.int a0), some (.int a1), some (.int a2), some (.int a3), some (.int a4), some (.int a5), some (.int (mI m 13 9))]) dX10_add_20 (Nat.le_of_ble_eq_true rfl) rfl ?_
    refine r_aload_n (y := m10_add) dX10_add_22 rfl rfl ?_
    refine g_X10_9 (y := m10_add) rfl dX10_add_23 hm ?_
    refine r_iload (y := m10_add) dX10_add_26 rfl ?_
    refine r_iload_n (y := m10_add) dX10_add_28 rfl rfl ?_
    obtain ⟨hb10, h⟩ := h
    refine r_iast (y := m10_add) (n := 3500) dX10_add_29 (sa_14 hm) hb10 ?_
    refine r_aload_n (y := m10_add) dX10_add_30 rfl rfl ?_
    refine g_X10_15 (y := m10_add) rfl dX10_add_31 (St.i hm) ?_
    refine r_iload (y := m10_add) dX10_add_34 rfl ?_
    refine r_iload_n (y := m10_add) dX10_add_36 rfl rfl ?_
    obtain ⟨hb11, h⟩ := h
    refine r_iast (y := m10_add) (n := 3500) dX10_add_37 (sa_15 (St.i hm)) hb11 ?_
    refine r_aload_n (y := m10_add) dX10_add_38 rfl rfl ?_
    refine g_X10_18 (y := m10_add) rfl dX10_add_39 (St.i (St.i hm)) ?_
    refine r_iload (y := m10_add) dX10_add_42 rfl ?_
    refine r_iload_n (y := m10_add) dX10_add_44 rfl rfl ?_
    obtain ⟨hb12, h⟩ := h
    refine r_iast (y := m10_add) (n := 3500) dX10_add_45 (sa_16 (St.i (St.i hm))) hb12 ?_
    refine r_aload_n (y := m10_add) dX10_add_46 rfl rfl ?_
    refine g_X10_21 (y := m10_add) rfl dX10_add_47 (St.i (St.i (St.i hm))) ?_
    refine r_iload (y := m10_add) dX10_add_50 rfl ?_
    refine r_iload (y := m10_add) dX10_add_52 rfl ?_
    obtain ⟨hb13, h⟩ := h
    refine r_iast (y := m10_add) (n := 3500) dX10_add_54 (sa_17 (St.i (St.i (St.i hm)))) hb13 ?_
    refine r_aload_n (y := m10_add) dX10_add_55 rfl rfl ?_
    refine g_X10_24 (y := m10_add) rfl dX10_add_56 (St.i (St.i (St.i (St.i hm)))) ?_
    refine r_iload (y := m10_add) dX10_add_59 rfl ?_
    refine r_iload (y := m10_add) dX10_add_61 rfl ?_
    obtain ⟨hb14, h⟩ := h
    refine r_iast (y := m10_add) (n := 3500) dX10_add_63 (sa_18 (St.i (St.i (St.i (St.i hm))))) hb14 ?_
    refine r_aload_n (y := m10_add) dX10_add_64 rfl rfl ?_
    refine g_X10_27 (y := m10_add) rfl dX10_add_65 (St.i (St.i (St.i (St.i (St.i hm))))) ?_
    refine r_iload (y := m10_add) dX10_add_68 rfl ?_
    refine r_iload (y := m10_add) dX10_add_70 rfl ?_
    obtain ⟨hb15, h⟩ := h
    refine r_iast (y := m10_add) (n := 3500) dX10_add_72 (sa_19 (St.i (St.i (St.i (St.i (St.i hm)))))) hb15 ?_
    refine r_aload_n (y := m10_add) dX10_add_73 rfl rfl ?_
    refine g_X10_30 (y := m10_add) rfl dX10_add_74 (St.i (St.i (St.i (St.i (St.i (St.i hm)))))) ?_
    refine r_iload (y := m10_add) dX10_add_77 rfl ?_
    refine r_iconst (y := m10_add) (v := 0) dX10_add_79 (by decide) ?_
    obtain ⟨hb16, h⟩ := h
    refine r_iast (y := m10_add) (n := 3500) dX10_add_80 (sa_20 (St.i (St.i (St.i (St.i (St.i (St.i hm))))))) hb16 ?_
    refine r_aload_n (y := m10_add) dX10_add_81 rfl rfl ?_
    refine g_X10_33 (y := m10_add) rfl dX10_add_82 (St.i (St.i (St.i (St.i (St.i (St.i (St.i hm))))))) ?_
    refine r_iload (y := m10_add) dX10_add_85 rfl ?_
    refine r_iconst (y := m10_add) (v := 0) dX10_add_87 (by decide) ?_
    obtain ⟨hb17, h⟩ := h
    refine r_iast (y := m10_add) (n := 3500) dX10_add_88 (sa_21 (St.i (St.i (St.i (St.i (St.i (St.i (St.i hm)))))))) hb17 ?_
    refine r_aload_n (y := m10_add) dX10_add_89 rfl rfl ?_
    refine r_iload (y := m10_add) dX10_add_90 rfl ?_
    refine r_iconst (y := m10_add) (v := 1) dX10_add_92 (by decide) ?_
    refine r_iadd (y := m10_add) dX10_add_93 ?_
    refine p_X10_39 (y := m10_add) rfl dX10_add_94 (St.i (St.i (St.i (St.i (St.i (St.i (St.i (St.i hm)))))))) ?_
    refine r_iload (y := m10_add) dX10_add_97 rfl ?_
    exact r_iret (y := m10_add) dX10_add_99 rfl rfl h
set_option maxHeartbeats 4000000 in
set_option maxRecDepth 100000 in
theorem w10_addOpen {m : Mm} {K : Option Value ⊕ String → Mm → Prop} (hm : St m) {a0 : Int32}  (h : C m10_add [(.ref 13), (.int 7), (.int 0), (.int (-1)), (.int (-1)), (.int 0), (.int a0)] m (fun o m1 => ∃ x3 : Int32, o = .inl (some (.int x3)) ∧ St m1 ∧ K (.inl (some (.int x3))) m1)) : V m10_addOpen 0 [some (.ref 13), some (.int a0)] [] m K := by
  refine r_aload_n (y := m10_addOpen) dX10_addOpen_0 rfl rfl ?_
  refine r_bipush (y := m10_addOpen) (v := 7) dX10_addOpen_1 (by decide) ?_
  refine r_iconst (y := m10_addOpen) (v := 0) dX10_addOpen_3 (by decide) ?_
  refine r_iconst (y := m10_addOpen) (v := (-1)) dX10_addOpen_4 (by decide) ?_
  refine r_iconst (y := m10_addOpen) (v := (-1)) dX10_addOpen_5 (by decide) ?_
  refine r_iconst (y := m10_addOpen) (v := 0) dX10_addOpen_6 (by decide) ?_
  refine r_iload_n (y := m10_addOpen) dX10_addOpen_7 rfl rfl ?_
  refine r_callV (y := m10_addOpen) (As := [(.int 7), (.int 0), (.int (-1)), (.int (-1)), (.int 0), (.int a0)]) (b := 13) (ci := 10) dX10_addOpen_8 rfl k10_add lm_X10_46 rfl ⟨by decide, by decide⟩ (so_13 hm) (by decide) rfl (Nat.le_of_ble_eq_true rfl) (C.mono h ?_)
  rintro _ m1 ⟨x3, rfl, hm2, h⟩
  refine ⟨_, rfl, ?_⟩
  exact r_iret (y := m10_addOpen) dX10_addOpen_11 rfl rfl h
set_option maxHeartbeats 4000000 in
set_option maxRecDepth 100000 in
theorem w10_find {m : Mm} {K : Option Value ⊕ String → Mm → Prop} (hm : St m) {a0 : Int32}  (h : V m10_find 4 [some (.ref 13), some (.int a0), some (.int a0), some (.int 0)] [] m K) : V m10_find 0 [some (.ref 13), some (.int a0), none, none] [] m K := by
  refine r_iload_n (y := m10_find) dX10_find_0 rfl rfl ?_
  refine r_istore_n (y := m10_find) (L' := [some (.ref 13), some (.int a0), some (.int a0), none]) dX10_find_1 rfl (Nat.le_of_ble_eq_true rfl) rfl ?_
  refine r_iconst (y := m10_find) (v := 0) dX10_find_2 (by decide) ?_
  refine r_istore_n (y := m10_find) (L' := [some (.ref 13), some (.int a0), some (.int a0), some (.int 0)]) dX10_find_3 rfl (Nat.le_of_ble_eq_true rfl) rfl ?_
  exact h
set_option maxHeartbeats 4000000 in
set_option maxRecDepth 100000 in
theorem w10_find_4 {m : Mm} {K : Option Value ⊕ String → Mm → Prop} (hm : St m) {v1 : Int32} {v2 : Int32} {v3 : Int32}  (h : ((3500 ≤ v3 → K (.inl (some (.int v2))) m) ∧ (¬ 3500 ≤ v3 → vp_in v2 3500 ∧ ((¬ (mI m 14 (Int32.toNatClampNeg v2)) = 8 → K (.inl (some (.int v2))) m) ∧ ((mI m 14 (Int32.toNatClampNeg v2)) = 8 → vp_in v2 3500 ∧ V m10_find 4 [some (.ref 13), some (.int v1), some (.int (mI m 16 (Int32.toNatClampNeg v2))), some (.int (v3 + 1))] [] m K))))) : V m10_find 4 [some (.ref 13), some (.int v1), some (.int v2), some (.int v3)] [] m K := by
  refine r_iload_n (y := m10_find) dX10_find_4 rfl rfl ?_
  refine r_sipush (y := m10_find) (v := 3500) dX10_find_5 (by decide) ?_
  refine r_icmp_ge (y := m10_find) (tgt := 35) dX10_find_8 (by decide) (fun hc1 => ?_) (fun hc1 => ?_)
  · have h := h.1 hc1
    refine r_iload_n (y := m10_find) dX10_find_35 rfl rfl ?_
    exact r_iret (y := m10_find) dX10_find_36 rfl rfl h
  · have h := h.2 hc1
    refine r_aload_n (y := m10_find) dX10_find_11 rfl rfl ?_
    refine g_X10_9 (y := m10_find) rfl dX10_find_12 hm ?_
    refine r_iload_n (y := m10_find) dX10_find_15 rfl rfl ?_
    obtain ⟨hb2, h⟩ := h
    refine r_iald (y := m10_find) (n := 3500) dX10_find_16 (sa_14 hm) hb2 ?_
    refine r_bipush (y := m10_find) (v := 8) dX10_find_17 (by decide) ?_
    refine r_icmp_ne (y := m10_find) (tgt := 35) dX10_find_19 (by decide) (fun hc3 => ?_) (fun hc3 => ?_)
    · have h := h.1 hc3
      refine r_iload_n (y := m10_find) dX10_find_35 rfl rfl ?_
      exact r_iret (y := m10_find) dX10_find_36 rfl rfl h
    · have h := h.2 hc3
      refine r_aload_n (y := m10_find) dX10_find_22 rfl rfl ?_
      refine g_X10_18 (y := m10_find) rfl dX10_find_23 hm ?_
      refine r_iload_n (y := m10_find) dX10_find_26 rfl rfl ?_
      obtain ⟨hb4, h⟩ := h
      refine r_iald (y := m10_find) (n := 3500) dX10_find_27 (sa_16 hm) hb4 ?_
      refine r_istore_n (y := m10_find) (L' := [some (.ref 13), some (.int v1), some (.int (mI m 16 (Int32.toNatClampNeg v2))), some (.int v3)]) dX10_find_28 rfl (Nat.le_of_ble_eq_true rfl) rfl ?_
      refine r_iinc (y := m10_find) (v := (v3 + 1)) (L' := [some (.ref 13), some (.int v1), some (.int (mI m 16 (Int32.toNatClampNeg v2))), some (.int (v3 + 1))]) dX10_find_29 rfl (by rfl) rfl ?_
      refine r_goto (y := m10_find) (tgt := 4) dX10_find_32 (by decide) ?_
      exact h
set_option maxHeartbeats 4000000 in
set_option maxRecDepth 100000 in
theorem w10_become {m : Mm} {K : Option Value ⊕ String → Mm → Prop} (hm : St m) {a0 : Int32} {a1 : Int32}  (h : vp_in a0 3500 ∧ vp_in a0 3500 ∧ K (.inl none) (mSetI (mSetI m 14 (Int32.toNatClampNeg a0) 8) 16 (Int32.toNatClampNeg a0) a1)) : V m10_become 0 [some (.ref 13), some (.int a0), some (.int a1)] [] m K := by
  refine r_aload_n (y := m10_become) dX10_become_0 rfl rfl ?_
  refine g_X10_9 (y := m10_become) rfl dX10_become_1 hm ?_
  refine r_iload_n (y := m10_become) dX10_become_4 rfl rfl ?_
  refine r_bipush (y := m10_become) (v := 8) dX10_become_5 (by decide) ?_
  obtain ⟨hb1, h⟩ := h
  refine r_iast (y := m10_become) (n := 3500) dX10_become_7 (sa_14 hm) hb1 ?_
  refine r_aload_n (y := m10_become) dX10_become_8 rfl rfl ?_
  refine g_X10_18 (y := m10_become) rfl dX10_become_9 (St.i hm) ?_
  refine r_iload_n (y := m10_become) dX10_become_12 rfl rfl ?_
  refine r_iload_n (y := m10_become) dX10_become_13 rfl rfl ?_
  obtain ⟨hb2, h⟩ := h
  refine r_iast (y := m10_become) (n := 3500) dX10_become_14 (sa_16 (St.i hm)) hb2 ?_
  exact r_ret (y := m10_become) dX10_become_15 rfl h
set_option maxHeartbeats 4000000 in
set_option maxRecDepth 100000 in
theorem w10_becomeData {m : Mm} {K : Option Value ⊕ String → Mm → Prop} (hm : St m) {a0 : Int32} {a1 : Int32} {a2 : Int32} {a3 : Int32}  (h : vp_in a0 3500 ∧ vp_in a0 3500 ∧ vp_in a0 3500 ∧ vp_in a0 3500 ∧ K (.inl none) (mSetI (mSetI (mSetI (mSetI m 14 (Int32.toNatClampNeg a0) 1) 15 (Int32.toNatClampNeg a0) a1) 16 (Int32.toNatClampNeg a0) a2) 17 (Int32.toNatClampNeg a0) a3)) : V m10_becomeData 0 [some (.ref 13), some (.int a0), some (.int a1), some (.int a2), some (.int a3)] [] m K := by
  refine r_aload_n (y := m10_becomeData) dX10_becomeData_0 rfl rfl ?_
  refine g_X10_9 (y := m10_becomeData) rfl dX10_becomeData_1 hm ?_
  refine r_iload_n (y := m10_becomeData) dX10_becomeData_4 rfl rfl ?_
  refine r_iconst (y := m10_becomeData) (v := 1) dX10_becomeData_5 (by decide) ?_
  obtain ⟨hb1, h⟩ := h
  refine r_iast (y := m10_becomeData) (n := 3500) dX10_becomeData_6 (sa_14 hm) hb1 ?_
  refine r_aload_n (y := m10_becomeData) dX10_becomeData_7 rfl rfl ?_
  refine g_X10_15 (y := m10_becomeData) rfl dX10_becomeData_8 (St.i hm) ?_
  refine r_iload_n (y := m10_becomeData) dX10_becomeData_11 rfl rfl ?_
  refine r_iload_n (y := m10_becomeData) dX10_becomeData_12 rfl rfl ?_
  obtain ⟨hb2, h⟩ := h
  refine r_iast (y := m10_becomeData) (n := 3500) dX10_becomeData_13 (sa_15 (St.i hm)) hb2 ?_
  refine r_aload_n (y := m10_becomeData) dX10_becomeData_14 rfl rfl ?_
  refine g_X10_18 (y := m10_becomeData) rfl dX10_becomeData_15 (St.i (St.i hm)) ?_
  refine r_iload_n (y := m10_becomeData) dX10_becomeData_18 rfl rfl ?_
  refine r_iload_n (y := m10_becomeData) dX10_becomeData_19 rfl rfl ?_
  obtain ⟨hb3, h⟩ := h
  refine r_iast (y := m10_becomeData) (n := 3500) dX10_becomeData_20 (sa_16 (St.i (St.i hm))) hb3 ?_
  refine r_aload_n (y := m10_becomeData) dX10_becomeData_21 rfl rfl ?_
  refine g_X10_21 (y := m10_becomeData) rfl dX10_becomeData_22 (St.i (St.i (St.i hm))) ?_
  refine r_iload_n (y := m10_becomeData) dX10_becomeData_25 rfl rfl ?_
  refine r_iload (y := m10_becomeData) dX10_becomeData_26 rfl ?_
  obtain ⟨hb4, h⟩ := h
  refine r_iast (y := m10_becomeData) (n := 3500) dX10_becomeData_28 (sa_17 (St.i (St.i (St.i hm)))) hb4 ?_
  exact r_ret (y := m10_becomeData) dX10_becomeData_29 rfl h
set_option maxHeartbeats 4000000 in
set_option maxRecDepth 100000 in
theorem w10_isIn {m : Mm} {K : Option Value ⊕ String → Mm → Prop} (hm : St m) {a0 : Int32} {a1 : Int32}  (h : C m10_find [(.ref 13), (.int a1)] (mSetI m 13 10 ((mI m 13 10) + 1)) (fun o m1 => ∃ x3 : Int32, o = .inl (some (.int x3)) ∧ St m1 ∧ C m10_enqueue [(.ref 13), (.int x3), (.int 0)] m1 (fun o m4 => ∃ x6 : Int32, o = .inl (some (.int x6)) ∧ St m4 ∧ V m10_isIn 24 [some (.ref 13), some (.int a0), some (.int a1), some (.int x6), some (.int 0), none, none] [] m4 K))) : V m10_isIn 0 [some (.ref 13), some (.int a0), some (.int a1), none, none, none, none] [] m K := by
  refine r_aload_n (y := m10_isIn) dX10_isIn_0 rfl rfl ?_
  refine r_dup_r (y := m10_isIn) dX10_isIn_1 ?_
  refine g_X10_43 (y := m10_isIn) rfl dX10_isIn_2 hm ?_
  refine r_iconst (y := m10_isIn) (v := 1) dX10_isIn_5 (by decide) ?_
  refine r_iadd (y := m10_isIn) dX10_isIn_6 ?_
  refine p_X10_43 (y := m10_isIn) rfl dX10_isIn_7 hm ?_
  refine r_aload_n (y := m10_isIn) dX10_isIn_10 rfl rfl ?_
  refine r_aload_n (y := m10_isIn) dX10_isIn_11 rfl rfl ?_
  refine r_iload_n (y := m10_isIn) dX10_isIn_12 rfl rfl ?_
  refine r_callV (y := m10_isIn) (As := [(.int a1)]) (b := 13) (ci := 10) dX10_isIn_13 rfl k10_find lm_X10_50 rfl ⟨by decide, by decide⟩ (so_13 (St.i hm)) (by decide) rfl (Nat.le_of_ble_eq_true rfl) (C.mono h ?_)
  rintro _ m1 ⟨x3, rfl, hm2, h⟩
  refine ⟨_, rfl, ?_⟩
  refine r_iconst (y := m10_isIn) (v := 0) dX10_isIn_16 (by decide) ?_
  refine r_callV (y := m10_isIn) (As := [(.int x3), (.int 0)]) (b := 13) (ci := 10) dX10_isIn_17 rfl k10_enqueue lm_X10_54 rfl ⟨by decide, by decide⟩ (so_13 hm2) (by decide) rfl (Nat.le_of_ble_eq_true rfl) (C.mono h ?_)
  rintro _ m4 ⟨x6, rfl, hm5, h⟩
  refine ⟨_, rfl, ?_⟩
  refine r_istore_n (y := m10_isIn) (L' := [some (.ref 13), some (.int a0), some (.int a1), some (.int x6), none, none, none]) dX10_isIn_20 rfl (Nat.le_of_ble_eq_true rfl) rfl ?_
  refine r_iconst (y := m10_isIn) (v := 0) dX10_isIn_21 (by decide) ?_
  refine r_istore (y := m10_isIn) (L' := [some (.ref 13), some (.int a0), some (.int a1), some (.int x6), some (.int 0), none, none]) dX10_isIn_22 (Nat.le_of_ble_eq_true rfl) rfl ?_
  exact h
set_option maxHeartbeats 4000000 in
set_option maxRecDepth 100000 in
theorem w10_isIn_24 {m : Mm} {K : Option Value ⊕ String → Mm → Prop} (hm : St m) {v1 : Int32} {v2 : Int32} {v3 : Int32} {v4 : Int32}  (h : ((v3 ≤ v4 → K (.inl (some (.int 0))) m) ∧ (¬ v3 ≤ v4 → ((3500 ≤ v4 → K (.inl (some (.int 0))) m) ∧ (¬ 3500 ≤ v4 → vp_in v4 3500 ∧ ((¬ (mI m 22 (Int32.toNatClampNeg v4)) = v1 → vp_in (mI m 22 (Int32.toNatClampNeg v4)) 3500 ∧ ((¬ (mI m 14 (Int32.toNatClampNeg (mI m 22 (Int32.toNatClampNeg v4)))) = 1 → V m10_isIn 24 [some (.ref 13), some (.int v1), some (.int v2), some (.int v3), some (.int (v4 + 1)), some (.int (mI m 22 (Int32.toNatClampNeg v4))), none] [] m K) ∧ ((mI m 14 (Int32.toNatClampNeg (mI m 22 (Int32.toNatClampNeg v4)))) = 1 → vp_in (mI m 22 (Int32.toNatClampNeg v4)) 3500 ∧ C m11_partsOfKind [(.int (mI m 15 (Int32.toNatClampNeg (mI m 22 (Int32.toNatClampNeg v4)))))] m (fun o m8 => ∃ x10 : Int32, o = .inl (some (.int x10)) ∧ St m8 ∧ ((x10 ≤ 0 → ((x10 ≤ 1 → V m10_isIn 24 [some (.ref 13), some (.int v1), some (.int v2), some (.int v3), some (.int (v4 + 1)), some (.int (mI m 22 (Int32.toNatClampNeg v4))), some (.int x10)] [] m8 K) ∧ (¬ x10 ≤ 1 → vp_in (mI m 22 (Int32.toNatClampNeg v4)) 3500 ∧ C m10_find [(.ref 13), (.int (mI m8 17 (Int32.toNatClampNeg (mI m 22 (Int32.toNatClampNeg v4)))))] m8 (fun o m14 => ∃ x16 : Int32, o = .inl (some (.int x16)) ∧ St m14 ∧ C m10_enqueue [(.ref 13), (.int x16), (.int v3)] m14 (fun o m17 => ∃ x19 : Int32, o = .inl (some (.int x19)) ∧ St m17 ∧ V m10_isIn 24 [some (.ref 13), some (.int v1), some (.int v2), some (.int x19), some (.int (v4 + 1)), some (.int (mI m 22 (Int32.toNatClampNeg v4))), some (.int x10)] [] m17 K))))) ∧ (¬ x10 ≤ 0 → vp_in (mI m 22 (Int32.toNatClampNeg v4)) 3500 ∧ C m10_find [(.ref 13), (.int (mI m8 16 (Int32.toNatClampNeg (mI m 22 (Int32.toNatClampNeg v4)))))] m8 (fun o m21 => ∃ x23 : Int32, o = .inl (some (.int x23)) ∧ St m21 ∧ C m10_enqueue [(.ref 13), (.int x23), (.int v3)] m21 (fun o m24 => ∃ x26 : Int32, o = .inl (some (.int x26)) ∧ St m24 ∧ ((x10 ≤ 1 → V m10_isIn 24 [some (.ref 13), some (.int v1), some (.int v2), some (.int x26), some (.int (v4 + 1)), some (.int (mI m 22 (Int32.toNatClampNeg v4))), some (.int x10)] [] m24 K) ∧ (¬ x10 ≤ 1 → vp_in (mI m 22 (Int32.toNatClampNeg v4)) 3500 ∧ C m10_find [(.ref 13), (.int (mI m24 17 (Int32.toNatClampNeg (mI m 22 (Int32.toNatClampNeg v4)))))] m24 (fun o m29 => ∃ x31 : Int32, o = .inl (some (.int x31)) ∧ St m29 ∧ C m10_enqueue [(.ref 13), (.int x31), (.int x26)] m29 (fun o m32 => ∃ x34 : Int32, o = .inl (some (.int x34)) ∧ St m32 ∧ V m10_isIn 24 [some (.ref 13), some (.int v1), some (.int v2), some (.int x34), some (.int (v4 + 1)), some (.int (mI m 22 (Int32.toNatClampNeg v4))), some (.int x10)] [] m32 K)))))))))))) ∧ ((mI m 22 (Int32.toNatClampNeg v4)) = v1 → K (.inl (some (.int 1))) m))))))) : V m10_isIn 24 [some (.ref 13), some (.int v1), some (.int v2), some (.int v3), some (.int v4), none, none] [] m K := by
  refine r_iload (y := m10_isIn) dX10_isIn_24 rfl ?_
  refine r_iload_n (y := m10_isIn) dX10_isIn_26 rfl rfl ?_
  refine r_icmp_ge (y := m10_isIn) (tgt := 137) dX10_isIn_27 (by decide) (fun hc1 => ?_) (fun hc1 => ?_)
  · have h := h.1 hc1
    refine r_iconst (y := m10_isIn) (v := 0) dX10_isIn_137 (by decide) ?_
    exact r_iret (y := m10_isIn) (ty := .boolean) dX10_isIn_138 rfl (by decide) h
  · have h := h.2 hc1
    refine r_iload (y := m10_isIn) dX10_isIn_30 rfl ?_
    refine r_sipush (y := m10_isIn) (v := 3500) dX10_isIn_32 (by decide) ?_
    refine r_icmp_ge (y := m10_isIn) (tgt := 137) dX10_isIn_35 (by decide) (fun hc2 => ?_) (fun hc2 => ?_)
    · have h := h.1 hc2
      refine r_iconst (y := m10_isIn) (v := 0) dX10_isIn_137 (by decide) ?_
      exact r_iret (y := m10_isIn) (ty := .boolean) dX10_isIn_138 rfl (by decide) h
    · have h := h.2 hc2
      refine r_aload_n (y := m10_isIn) dX10_isIn_38 rfl rfl ?_
      refine g_X10_36 (y := m10_isIn) rfl dX10_isIn_39 hm ?_
      refine r_iload (y := m10_isIn) dX10_isIn_42 rfl ?_
      obtain ⟨hb3, h⟩ := h
      refine r_iald (y := m10_isIn) (n := 3500) dX10_isIn_44 (sa_22 hm) hb3 ?_
      refine r_istore (y := m10_isIn) (L' := [some (.ref 13), some (.int v1), some (.int v2), some (.int v3), some (.int v4), some (.int (mI m 22 (Int32.toNatClampNeg v4))), none]) dX10_isIn_45 (Nat.le_of_ble_eq_true rfl) rfl ?_
      refine r_iload (y := m10_isIn) dX10_isIn_47 rfl ?_
      refine r_iload_n (y := m10_isIn) dX10_isIn_49 rfl rfl ?_
      refine r_icmp_ne (y := m10_isIn) (tgt := 55) dX10_isIn_50 (by decide) (fun hc4 => ?_) (fun hc4 => ?_)
      · have h := h.1 hc4
        refine r_aload_n (y := m10_isIn) dX10_isIn_55 rfl rfl ?_
        refine g_X10_9 (y := m10_isIn) rfl dX10_isIn_56 hm ?_
        refine r_iload (y := m10_isIn) dX10_isIn_59 rfl ?_
        obtain ⟨hb5, h⟩ := h
        refine r_iald (y := m10_isIn) (n := 3500) dX10_isIn_61 (sa_14 hm) hb5 ?_
        refine r_iconst (y := m10_isIn) (v := 1) dX10_isIn_62 (by decide) ?_
        refine r_icmp_ne (y := m10_isIn) (tgt := 131) dX10_isIn_63 (by decide) (fun hc6 => ?_) (fun hc6 => ?_)
        · have h := h.1 hc6
          refine r_iinc (y := m10_isIn) (v := (v4 + 1)) (L' := [some (.ref 13), some (.int v1), some (.int v2), some (.int v3), some (.int (v4 + 1)), some (.int (mI m 22 (Int32.toNatClampNeg v4))), none]) dX10_isIn_131 rfl (by rfl) rfl ?_
          refine r_goto (y := m10_isIn) (tgt := 24) dX10_isIn_134 (by decide) ?_
          exact h
        · have h := h.2 hc6
          refine r_aload_n (y := m10_isIn) dX10_isIn_66 rfl rfl ?_
          refine g_X10_15 (y := m10_isIn) rfl dX10_isIn_67 hm ?_
          refine r_iload (y := m10_isIn) dX10_isIn_70 rfl ?_
          obtain ⟨hb7, h⟩ := h
          refine r_iald (y := m10_isIn) (n := 3500) dX10_isIn_72 (sa_15 hm) hb7 ?_
          refine r_callSN (y := m10_isIn) (As := [(.int (mI m 15 (Int32.toNatClampNeg (mI m 22 (Int32.toNatClampNeg v4)))))]) dX10_isIn_73 rfl k11_partsOfKind lm_X10_58 rfl ⟨by decide, by decide⟩ (Nat.le_of_ble_eq_true rfl) (C.mono h ?_)
          rintro _ m8 ⟨x10, rfl, hm9, h⟩
          refine ⟨_, rfl, ?_⟩
          refine r_istore (y := m10_isIn) (L' := [some (.ref 13), some (.int v1), some (.int v2), some (.int v3), some (.int v4), some (.int (mI m 22 (Int32.toNatClampNeg v4))), some (.int x10)]) dX10_isIn_76 (Nat.le_of_ble_eq_true rfl) rfl ?_
          refine r_iload (y := m10_isIn) dX10_isIn_78 rfl ?_
          refine r_if_le (y := m10_isIn) (tgt := 102) dX10_isIn_80 (by decide) (fun hc11 => ?_) (fun hc11 => ?_)
          · have h := h.1 hc11
            refine r_iload_n (y := m10_isIn) dX10_isIn_102 rfl rfl ?_
            refine r_istore_n (y := m10_isIn) (L' := [some (.ref 13), some (.int v1), some (.int v2), some (.int v3), some (.int v4), some (.int (mI m 22 (Int32.toNatClampNeg v4))), some (.int x10)]) dX10_isIn_103 rfl (Nat.le_of_ble_eq_true rfl) rfl ?_
            refine r_iload (y := m10_isIn) dX10_isIn_104 rfl ?_
            refine r_iconst (y := m10_isIn) (v := 1) dX10_isIn_106 (by decide) ?_
            refine r_icmp_le (y := m10_isIn) (tgt := 129) dX10_isIn_107 (by decide) (fun hc12 => ?_) (fun hc12 => ?_)
            · have h := h.1 hc12
              refine r_iload_n (y := m10_isIn) dX10_isIn_129 rfl rfl ?_
              refine r_istore_n (y := m10_isIn) (L' := [some (.ref 13), some (.int v1), some (.int v2), some (.int v3), some (.int v4), some (.int (mI m 22 (Int32.toNatClampNeg v4))), some (.int x10)]) dX10_isIn_130 rfl (Nat.le_of_ble_eq_true rfl) rfl ?_
              refine r_iinc (y := m10_isIn) (v := (v4 + 1)) (L' := [some (.ref 13), some (.int v1), some (.int v2), some (.int v3), some (.int (v4 + 1)), some (.int (mI m 22 (Int32.toNatClampNeg v4))), some (.int x10)]) dX10_isIn_131 rfl (by rfl) rfl ?_
              refine r_goto (y := m10_isIn) (tgt := 24) dX10_isIn_134 (by decide) ?_
              exact h
            · have h := h.2 hc12
              refine r_aload_n (y := m10_isIn) dX10_isIn_110 rfl rfl ?_
              refine r_aload_n (y := m10_isIn) dX10_isIn_111 rfl rfl ?_
              refine r_aload_n (y := m10_isIn) dX10_isIn_112 rfl rfl ?_
              refine g_X10_21 (y := m10_isIn) rfl dX10_isIn_113 hm9 ?_
              refine r_iload (y := m10_isIn) dX10_isIn_116 rfl ?_
              obtain ⟨hb13, h⟩ := h
              refine r_iald (y := m10_isIn) (n := 3500) dX10_isIn_118 (sa_17 hm9) hb13 ?_
              refine r_callV (y := m10_isIn) (As := [(.int (mI m8 17 (Int32.toNatClampNeg (mI m 22 (Int32.toNatClampNeg v4)))))]) (b := 13) (ci := 10) dX10_isIn_119 rfl k10_find lm_X10_50 rfl ⟨by decide, by decide⟩ (so_13 hm9) (by decide) rfl (Nat.le_of_ble_eq_true rfl) (C.mono h ?_)
              rintro _ m14 ⟨x16, rfl, hm15, h⟩
              refine ⟨_, rfl, ?_⟩
              refine r_iload_n (y := m10_isIn) dX10_isIn_122 rfl rfl ?_
              refine r_callV (y := m10_isIn) (As := [(.int x16), (.int v3)]) (b := 13) (ci := 10) dX10_isIn_123 rfl k10_enqueue lm_X10_54 rfl ⟨by decide, by decide⟩ (so_13 hm15) (by decide) rfl (Nat.le_of_ble_eq_true rfl) (C.mono h ?_)
              rintro _ m17 ⟨x19, rfl, hm18, h⟩
              refine ⟨_, rfl, ?_⟩
              refine r_goto (y := m10_isIn) (tgt := 130) dX10_isIn_126 (by decide) ?_
              refine r_istore_n (y := m10_isIn) (L' := [some (.ref 13), some (.int v1), some (.int v2), some (.int x19), some (.int v4), some (.int (mI m 22 (Int32.toNatClampNeg v4))), some (.int x10)]) dX10_isIn_130 rfl (Nat.le_of_ble_eq_true rfl) rfl ?_
              refine r_iinc (y := m10_isIn) (v := (v4 + 1)) (L' := [some (.ref 13), some (.int v1), some (.int v2), some (.int x19), some (.int (v4 + 1)), some (.int (mI m 22 (Int32.toNatClampNeg v4))), some (.int x10)]) dX10_isIn_131 rfl (by rfl) rfl ?_
              refine r_goto (y := m10_isIn) (tgt := 24) dX10_isIn_134 (by decide) ?_
              exact h
          · have h := h.2 hc11
            refine r_aload_n (y := m10_isIn) dX10_isIn_83 rfl rfl ?_
            refine r_aload_n (y := m10_isIn) dX10_isIn_84 rfl rfl ?_
            refine r_aload_n (y := m10_isIn) dX10_isIn_85 rfl rfl ?_
            refine g_X10_18 (y := m10_isIn) rfl dX10_isIn_86 hm9 ?_
            refine r_iload (y := m10_isIn) dX10_isIn_89 rfl ?_
            obtain ⟨hb20, h⟩ := h
            refine r_iald (y := m10_isIn) (n := 3500) dX10_isIn_91 (sa_16 hm9) hb20 ?_
            refine r_callV (y := m10_isIn) (As := [(.int (mI m8 16 (Int32.toNatClampNeg (mI m 22 (Int32.toNatClampNeg v4)))))]) (b := 13) (ci := 10) dX10_isIn_92 rfl k10_find lm_X10_50 rfl ⟨by decide, by decide⟩ (so_13 hm9) (by decide) rfl (Nat.le_of_ble_eq_true rfl) (C.mono h ?_)
            rintro _ m21 ⟨x23, rfl, hm22, h⟩
            refine ⟨_, rfl, ?_⟩
            refine r_iload_n (y := m10_isIn) dX10_isIn_95 rfl rfl ?_
            refine r_callV (y := m10_isIn) (As := [(.int x23), (.int v3)]) (b := 13) (ci := 10) dX10_isIn_96 rfl k10_enqueue lm_X10_54 rfl ⟨by decide, by decide⟩ (so_13 hm22) (by decide) rfl (Nat.le_of_ble_eq_true rfl) (C.mono h ?_)
            rintro _ m24 ⟨x26, rfl, hm25, h⟩
            refine ⟨_, rfl, ?_⟩
            refine r_goto (y := m10_isIn) (tgt := 103) dX10_isIn_99 (by decide) ?_
            refine r_istore_n (y := m10_isIn) (L' := [some (.ref 13), some (.int v1), some (.int v2), some (.int x26), some (.int v4), some (.int (mI m 22 (Int32.toNatClampNeg v4))), some (.int x10)]) dX10_isIn_103 rfl (Nat.le_of_ble_eq_true rfl) rfl ?_
            refine r_iload (y := m10_isIn) dX10_isIn_104 rfl ?_
            refine r_iconst (y := m10_isIn) (v := 1) dX10_isIn_106 (by decide) ?_
            refine r_icmp_le (y := m10_isIn) (tgt := 129) dX10_isIn_107 (by decide) (fun hc27 => ?_) (fun hc27 => ?_)
            · have h := h.1 hc27
              refine r_iload_n (y := m10_isIn) dX10_isIn_129 rfl rfl ?_
              refine r_istore_n (y := m10_isIn) (L' := [some (.ref 13), some (.int v1), some (.int v2), some (.int x26), some (.int v4), some (.int (mI m 22 (Int32.toNatClampNeg v4))), some (.int x10)]) dX10_isIn_130 rfl (Nat.le_of_ble_eq_true rfl) rfl ?_
              refine r_iinc (y := m10_isIn) (v := (v4 + 1)) (L' := [some (.ref 13), some (.int v1), some (.int v2), some (.int x26), some (.int (v4 + 1)), some (.int (mI m 22 (Int32.toNatClampNeg v4))), some (.int x10)]) dX10_isIn_131 rfl (by rfl) rfl ?_
              refine r_goto (y := m10_isIn) (tgt := 24) dX10_isIn_134 (by decide) ?_
              exact h
            · have h := h.2 hc27
              refine r_aload_n (y := m10_isIn) dX10_isIn_110 rfl rfl ?_
              refine r_aload_n (y := m10_isIn) dX10_isIn_111 rfl rfl ?_
              refine r_aload_n (y := m10_isIn) dX10_isIn_112 rfl rfl ?_
              refine g_X10_21 (y := m10_isIn) rfl dX10_isIn_113 hm25 ?_
              refine r_iload (y := m10_isIn) dX10_isIn_116 rfl ?_
              obtain ⟨hb28, h⟩ := h
              refine r_iald (y := m10_isIn) (n := 3500) dX10_isIn_118 (sa_17 hm25) hb28 ?_
              refine r_callV (y := m10_isIn) (As := [(.int (mI m24 17 (Int32.toNatClampNeg (mI m 22 (Int32.toNatClampNeg v4)))))]) (b := 13) (ci := 10) dX10_isIn_119 rfl k10_find lm_X10_50 rfl ⟨by decide, by decide⟩ (so_13 hm25) (by decide) rfl (Nat.le_of_ble_eq_true rfl) (C.mono h ?_)
              rintro _ m29 ⟨x31, rfl, hm30, h⟩
              refine ⟨_, rfl, ?_⟩
              refine r_iload_n (y := m10_isIn) dX10_isIn_122 rfl rfl ?_
              refine r_callV (y := m10_isIn) (As := [(.int x31), (.int x26)]) (b := 13) (ci := 10) dX10_isIn_123 rfl k10_enqueue lm_X10_54 rfl ⟨by decide, by decide⟩ (so_13 hm30) (by decide) rfl (Nat.le_of_ble_eq_true rfl) (C.mono h ?_)
              rintro _ m32 ⟨x34, rfl, hm33, h⟩
              refine ⟨_, rfl, ?_⟩
              refine r_goto (y := m10_isIn) (tgt := 130) dX10_isIn_126 (by decide) ?_
              refine r_istore_n (y := m10_isIn) (L' := [some (.ref 13), some (.int v1), some (.int v2), some (.int x34), some (.int v4), some (.int (mI m 22 (Int32.toNatClampNeg v4))), some (.int x10)]) dX10_isIn_130 rfl (Nat.le_of_ble_eq_true rfl) rfl ?_
              refine r_iinc (y := m10_isIn) (v := (v4 + 1)) (L' := [some (.ref 13), some (.int v1), some (.int v2), some (.int x34), some (.int (v4 + 1)), some (.int (mI m 22 (Int32.toNatClampNeg v4))), some (.int x10)]) dX10_isIn_131 rfl (by rfl) rfl ?_
              refine r_goto (y := m10_isIn) (tgt := 24) dX10_isIn_134 (by decide) ?_
              exact h
      · have h := h.2 hc4
        refine r_iconst (y := m10_isIn) (v := 1) dX10_isIn_53 (by decide) ?_
        exact r_iret (y := m10_isIn) (ty := .boolean) dX10_isIn_54 rfl (by decide) h
set_option maxHeartbeats 4000000 in
set_option maxRecDepth 100000 in
theorem w10_enqueue {m : Mm} {K : Option Value ⊕ String → Mm → Prop} (hm : St m) {a0 : Int32} {a1 : Int32}  (h : vp_in a0 3500 ∧ (((mI m 21 (Int32.toNatClampNeg a0)) = (mI m 13 10) → K (.inl (some (.int a1))) m) ∧ (¬ (mI m 21 (Int32.toNatClampNeg a0)) = (mI m 13 10) → ((a1 < 3500 → vp_in a0 3500 ∧ vp_in a1 3500 ∧ K (.inl (some (.int (a1 + 1)))) (mSetI (mSetI m 21 (Int32.toNatClampNeg a0) (mI m 13 10)) 22 (Int32.toNatClampNeg a1) a0)) ∧ (¬ a1 < 3500 → K (.inl (some (.int a1))) m))))) : V m10_enqueue 0 [some (.ref 13), some (.int a0), some (.int a1)] [] m K := by
  refine r_aload_n (y := m10_enqueue) dX10_enqueue_0 rfl rfl ?_
  refine g_X10_33 (y := m10_enqueue) rfl dX10_enqueue_1 hm ?_
  refine r_iload_n (y := m10_enqueue) dX10_enqueue_4 rfl rfl ?_
  obtain ⟨hb1, h⟩ := h
  refine r_iald (y := m10_enqueue) (n := 3500) dX10_enqueue_5 (sa_21 hm) hb1 ?_
  refine r_aload_n (y := m10_enqueue) dX10_enqueue_6 rfl rfl ?_
  refine g_X10_43 (y := m10_enqueue) rfl dX10_enqueue_7 hm ?_
  refine r_icmp_eq (y := m10_enqueue) (tgt := 20) dX10_enqueue_10 (by decide) (fun hc2 => ?_) (fun hc2 => ?_)
  · have h := h.1 hc2
    refine r_iload_n (y := m10_enqueue) dX10_enqueue_20 rfl rfl ?_
    exact r_iret (y := m10_enqueue) dX10_enqueue_21 rfl rfl h
  · have h := h.2 hc2
    refine r_iload_n (y := m10_enqueue) dX10_enqueue_13 rfl rfl ?_
    refine r_sipush (y := m10_enqueue) (v := 3500) dX10_enqueue_14 (by decide) ?_
    refine r_icmp_lt (y := m10_enqueue) (tgt := 22) dX10_enqueue_17 (by decide) (fun hc3 => ?_) (fun hc3 => ?_)
    · have h := h.1 hc3
      refine r_aload_n (y := m10_enqueue) dX10_enqueue_22 rfl rfl ?_
      refine g_X10_33 (y := m10_enqueue) rfl dX10_enqueue_23 hm ?_
      refine r_iload_n (y := m10_enqueue) dX10_enqueue_26 rfl rfl ?_
      refine r_aload_n (y := m10_enqueue) dX10_enqueue_27 rfl rfl ?_
      refine g_X10_43 (y := m10_enqueue) rfl dX10_enqueue_28 hm ?_
      obtain ⟨hb4, h⟩ := h
      refine r_iast (y := m10_enqueue) (n := 3500) dX10_enqueue_31 (sa_21 hm) hb4 ?_
      refine r_aload_n (y := m10_enqueue) dX10_enqueue_32 rfl rfl ?_
      refine g_X10_36 (y := m10_enqueue) rfl dX10_enqueue_33 (St.i hm) ?_
      refine r_iload_n (y := m10_enqueue) dX10_enqueue_36 rfl rfl ?_
      refine r_iload_n (y := m10_enqueue) dX10_enqueue_37 rfl rfl ?_
      obtain ⟨hb5, h⟩ := h
      refine r_iast (y := m10_enqueue) (n := 3500) dX10_enqueue_38 (sa_22 (St.i hm)) hb5 ?_
      refine r_iload_n (y := m10_enqueue) dX10_enqueue_39 rfl rfl ?_
      refine r_iconst (y := m10_enqueue) (v := 1) dX10_enqueue_40 (by decide) ?_
      refine r_iadd (y := m10_enqueue) dX10_enqueue_41 ?_
      exact r_iret (y := m10_enqueue) dX10_enqueue_42 rfl rfl h
    · have h := h.2 hc3
      refine r_iload_n (y := m10_enqueue) dX10_enqueue_20 rfl rfl ?_
      exact r_iret (y := m10_enqueue) dX10_enqueue_21 rfl rfl h
