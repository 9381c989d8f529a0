/-! written by gen/drive.py -/
set_option maxHeartbeats 4000000 in
set_option maxRecDepth 100000 in
theorem w9_push {m : Mm} {K : Option Value ⊕ String → Mm → Prop} (hm : St m) {a0 : Int32} {a1 : Int32} {a2 : Int32} {a3 : Int32}  (h : ((5000 ≤ (mI m 23 4) → K (.inl none) m) ∧ (¬ 5000 ≤ (mI m 23 4) → vp_in (mI m 23 4) 5000 ∧ vp_in (mI m 23 4) 5000 ∧ vp_in (mI m 23 4) 5000 ∧ vp_in (mI m 23 4) 5000 ∧ K (.inl none) (mSetI (mSetI (mSetI (mSetI (mSetI m 24 (Int32.toNatClampNeg (mI m 23 4)) a0) 25 (Int32.toNatClampNeg (mI m 23 4)) a1) 26 (Int32.toNatClampNeg (mI m 23 4)) a2) 27 (Int32.toNatClampNeg (mI m 23 4)) a3) 23 4 ((mI m 23 4) + 1))))) : V m9_push 0 [some (.ref 23), some (.int a0), some (.int a1), some (.int a2), some (.int a3)] [] m K := by
  refine r_aload_n (y := m9_push) dX9_push_0 rfl rfl ?_
  refine g_X9_24 (y := m9_push) rfl dX9_push_1 hm ?_
  refine r_sipush (y := m9_push) (v := 5000) dX9_push_4 (by decide) ?_
  refine r_icmp_ge (y := m9_push) (tgt := 61) dX9_push_7 (by decide) (fun hc1 => ?_) (fun hc1 => ?_)
  · have h := h.1 hc1
    exact r_ret (y := m9_push) dX9_push_61 rfl h
  · have h := h.2 hc1
    refine r_aload_n (y := m9_push) dX9_push_10 rfl rfl ?_
    refine g_X9_9 (y := m9_push) rfl dX9_push_11 hm ?_
    refine r_aload_n (y := m9_push) dX9_push_14 rfl rfl ?_
    refine g_X9_24 (y := m9_push) rfl dX9_push_15 hm ?_
    refine r_iload_n (y := m9_push) dX9_push_18 rfl rfl ?_
    obtain ⟨hb2, h⟩ := h
    refine r_iast (y := m9_push) (n := 5000) dX9_push_19 (sa_24 hm) hb2 ?_
    refine r_aload_n (y := m9_push) dX9_push_20 rfl rfl ?_
    refine g_X9_15 (y := m9_push) rfl dX9_push_21 (St.i hm) ?_
    refine r_aload_n (y := m9_push) dX9_push_24 rfl rfl ?_
    refine g_X9_24 (y := m9_push) rfl dX9_push_25 (St.i hm) ?_
    refine V.top (b := (mI m 23 4)) (by first | rfl | simp [mI_set, mI_setR]) ?_
    refine r_iload_n (y := m9_push) dX9_push_28 rfl rfl ?_
    obtain ⟨hb3, h⟩ := h
    refine r_iast (y := m9_push) (n := 5000) dX9_push_29 (sa_25 (St.i hm)) hb3 ?_
    refine r_aload_n (y := m9_push) dX9_push_30 rfl rfl ?_
    refine g_X9_18 (y := m9_push) rfl dX9_push_31 (St.i (St.i hm)) ?_
    refine r_aload_n (y := m9_push) dX9_push_34 rfl rfl ?_
    refine g_X9_24 (y := m9_push) rfl dX9_push_35 (St.i (St.i hm)) ?_
    refine V.top (b := (mI m 23 4)) (by first | rfl | simp [mI_set, mI_setR]) ?_
    refine r_iload_n (y := m9_push) dX9_push_38 rfl rfl ?_
    obtain ⟨hb4, h⟩ := h
    refine r_iast (y := m9_push) (n := 5000) dX9_push_39 (sa_26 (St.i (St.i hm))) hb4 ?_
    refine r_aload_n (y := m9_push) dX9_push_40 rfl rfl ?_
    refine g_X9_21 (y := m9_push) rfl dX9_push_41 (St.i (St.i (St.i hm))) ?_
    refine r_aload_n (y := m9_push) dX9_push_44 rfl rfl ?_
    refine g_X9_24 (y := m9_push) rfl dX9_push_45 (St.i (St.i (St.i hm))) ?_
    refine V.top (b := (mI m 23 4)) (by first | rfl | simp [mI_set, mI_setR]) ?_
    refine r_iload (y := m9_push) dX9_push_48 rfl ?_
    obtain ⟨hb5, h⟩ := h
    refine r_iast (y := m9_push) (n := 5000) dX9_push_50 (sa_27 (St.i (St.i (St.i hm)))) hb5 ?_
    refine r_aload_n (y := m9_push) dX9_push_51 rfl rfl ?_
    refine r_dup_r (y := m9_push) dX9_push_52 ?_
    refine g_X9_24 (y := m9_push) rfl dX9_push_53 (St.i (St.i (St.i (St.i hm)))) ?_
    refine V.top (b := (mI m 23 4)) (by first | rfl | simp [mI_set, mI_setR]) ?_
    refine r_iconst (y := m9_push) (v := 1) dX9_push_56 (by decide) ?_
    refine r_iadd (y := m9_push) dX9_push_57 ?_
    refine p_X9_24 (y := m9_push) rfl dX9_push_58 (St.i (St.i (St.i (St.i hm)))) ?_
    exact r_ret (y := m9_push) dX9_push_61 rfl h
set_option maxHeartbeats 4000000 in
set_option maxRecDepth 100000 in
theorem w9_push_ {m : Mm} {K : Option Value ⊕ String → Mm → Prop} (hm : St m) {a0 : Int32} {a1 : Int32}  (h : C m9_push [(.ref 23), (.int a0), (.int a1), (.int (-1)), (.int (-1))] m (fun o m1 => o = .inl none ∧ St m1 ∧ K (.inl none) m1)) : V m9_push_ 0 [some (.ref 23), some (.int a0), some (.int a1)] [] m K := by
  refine r_aload_n (y := m9_push_) dX9_push__0 rfl rfl ?_
  refine r_iload_n (y := m9_push_) dX9_push__1 rfl rfl ?_
  refine r_iload_n (y := m9_push_) dX9_push__2 rfl rfl ?_
  refine r_iconst (y := m9_push_) (v := (-1)) dX9_push__3 (by decide) ?_
  refine r_iconst (y := m9_push_) (v := (-1)) dX9_push__4 (by decide) ?_
  refine r_callV (y := m9_push_) (As := [(.int a0), (.int a1), (.int (-1)), (.int (-1))]) (b := 23) (ci := 9) dX9_push__5 rfl k9_push lm_X9_28 rfl ⟨by decide, by decide⟩ (so_23 hm) (by decide) rfl (Nat.le_of_ble_eq_true rfl) (C.mono h ?_)
  rintro _ m1 ⟨rfl, hm2, h⟩
  refine ⟨none, rfl, ?_⟩
  exact r_ret (y := m9_push_) dX9_push__8 rfl h
