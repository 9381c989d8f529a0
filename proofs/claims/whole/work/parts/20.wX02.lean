/-! written by gen/drive.py -/
set_option maxHeartbeats 4000000 in
set_option maxRecDepth 100000 in
theorem w2_advance {m : Mm} {K : Option Value ⊕ String → Mm → Prop} (hm : St m) {i0 : Nat} (hi0 : i0 < 102) (h : V m2_advance 7 [some (.ref (235 + 3 * i0)), some (.int ((mI m (235 + 3 * i0) 3) - 1))] [] m K) : V m2_advance 0 [some (.ref (235 + 3 * i0)), none] [] m K := by
  refine r_aload_n (y := m2_advance) dX2_advance_0 rfl rfl ?_
  refine g_X2_22 (y := m2_advance) (i := i0) rfl dX2_advance_1 hm hi0 ?_
  refine r_iconst (y := m2_advance) (v := 1) dX2_advance_4 (by decide) ?_
  refine r_isub (y := m2_advance) dX2_advance_5 ?_
  refine r_istore_n (y := m2_advance) (L' := [some (.ref (235 + 3 * i0)), some (.int ((mI m (235 + 3 * i0) 3) - 1))]) dX2_advance_6 rfl (Nat.le_of_ble_eq_true rfl) rfl ?_
  exact h
set_option maxHeartbeats 4000000 in
set_option maxRecDepth 100000 in
theorem w2_advance_7 {m : Mm} {K : Option Value ⊕ String → Mm → Prop} (hm : St m) {jj0 : Nat} {v1 : Int32} (hjj0 : jj0 < 102) (h : ((v1 < 0 → K (.inl (some (.int 0))) m) ∧ (¬ v1 < 0 → vp_in v1 40 ∧ vp_in v1 40 ∧ (((mI m (237 + 3 * jj0) (Int32.toNatClampNeg v1)) ≤ ((mI m (236 + 3 * jj0) (Int32.toNatClampNeg v1)) + 1) → V m2_advance 7 [some (.ref (235 + 3 * jj0)), some (.int (v1 + (-1)))] [] m K) ∧ (¬ (mI m (237 + 3 * jj0) (Int32.toNatClampNeg v1)) ≤ ((mI m (236 + 3 * jj0) (Int32.toNatClampNeg v1)) + 1) → vp_in v1 40 ∧ vp_in v1 40 ∧ K (.inl (some (.int 1))) (mSetI (mSetI m (236 + 3 * jj0) (Int32.toNatClampNeg v1) ((mI m (236 + 3 * jj0) (Int32.toNatClampNeg v1)) + 1)) (235 + 3 * jj0) 2 (v1 + 1))))))) : V m2_advance 7 [some (.ref (235 + 3 * jj0)), some (.int v1)] [] m K := by
  refine r_iload_n (y := m2_advance) dX2_advance_7 rfl rfl ?_
  refine r_if_lt (y := m2_advance) (tgt := 53) dX2_advance_8 (by decide) (fun hc1 => ?_) (fun hc1 => ?_)
  · have h := h.1 hc1
    refine r_iconst (y := m2_advance) (v := 0) dX2_advance_53 (by decide) ?_
    exact r_iret (y := m2_advance) (ty := .boolean) dX2_advance_54 rfl (by decide) h
  · have h := h.2 hc1
    refine r_aload_n (y := m2_advance) dX2_advance_11 rfl rfl ?_
    refine g_X2_9 (y := m2_advance) (i := jj0) rfl dX2_advance_12 hm hjj0 ?_
    refine r_iload_n (y := m2_advance) dX2_advance_15 rfl rfl ?_
    obtain ⟨hb2, h⟩ := h
    refine r_iald (y := m2_advance) (n := 40) dX2_advance_16 (sa_lw hm hjj0) hb2 ?_
    refine r_iconst (y := m2_advance) (v := 1) dX2_advance_17 (by decide) ?_
    refine r_iadd (y := m2_advance) dX2_advance_18 ?_
    refine r_aload_n (y := m2_advance) dX2_advance_19 rfl rfl ?_
    refine g_X2_15 (y := m2_advance) (i := jj0) rfl dX2_advance_20 hm hjj0 ?_
    refine r_iload_n (y := m2_advance) dX2_advance_23 rfl rfl ?_
    obtain ⟨hb3, h⟩ := h
    refine r_iald (y := m2_advance) (n := 40) dX2_advance_24 (sa_ll hm hjj0) hb3 ?_
    refine r_icmp_ge (y := m2_advance) (tgt := 47) dX2_advance_25 (by decide) (fun hc4 => ?_) (fun hc4 => ?_)
    · have h := h.1 hc4
      refine r_iinc (y := m2_advance) (v := (v1 + (-1))) (L' := [some (.ref (235 + 3 * jj0)), some (.int (v1 + (-1)))]) dX2_advance_47 rfl (by rfl) rfl ?_
      refine r_goto (y := m2_advance) (tgt := 7) dX2_advance_50 (by decide) ?_
      exact h
    · have h := h.2 hc4
      refine r_aload_n (y := m2_advance) dX2_advance_28 rfl rfl ?_
      refine g_X2_9 (y := m2_advance) (i := jj0) rfl dX2_advance_29 hm hjj0 ?_
      refine r_iload_n (y := m2_advance) dX2_advance_32 rfl rfl ?_
      refine r_dup2 (y := m2_advance) dX2_advance_33 ?_
      obtain ⟨hb5, h⟩ := h
      refine r_iald (y := m2_advance) (n := 40) dX2_advance_34 (sa_lw hm hjj0) hb5 ?_
      refine r_iconst (y := m2_advance) (v := 1) dX2_advance_35 (by decide) ?_
      refine r_iadd (y := m2_advance) dX2_advance_36 ?_
      obtain ⟨hb6, h⟩ := h
      refine r_iast (y := m2_advance) (n := 40) dX2_advance_37 (sa_lw hm hjj0) hb6 ?_
      refine r_aload_n (y := m2_advance) dX2_advance_38 rfl rfl ?_
      refine r_iload_n (y := m2_advance) dX2_advance_39 rfl rfl ?_
      refine r_iconst (y := m2_advance) (v := 1) dX2_advance_40 (by decide) ?_
      refine r_iadd (y := m2_advance) dX2_advance_41 ?_
      refine p_X2_18 (y := m2_advance) (i := jj0) rfl dX2_advance_42 (St.i hm) hjj0 ?_
      refine r_iconst (y := m2_advance) (v := 1) dX2_advance_45 (by decide) ?_
      exact r_iret (y := m2_advance) (ty := .boolean) dX2_advance_46 rfl (by decide) h
set_option maxHeartbeats 4000000 in
set_option maxRecDepth 100000 in
theorem w2_deepen {m : Mm} {K : Option Value ⊕ String → Mm → Prop} (hm : St m) {i0 : Nat} (hi0 : i0 < 102) (h : ((40 ≤ (mI m (235 + 3 * i0) 2) → K (.inl none) m) ∧ (¬ 40 ≤ (mI m (235 + 3 * i0) 2) → vp_in (mI m (235 + 3 * i0) 2) 40 ∧ K (.inl none) (mSetI (mSetI m (236 + 3 * i0) (Int32.toNatClampNeg (mI m (235 + 3 * i0) 2)) 0) (235 + 3 * i0) 2 ((mI (mSetI m (236 + 3 * i0) (Int32.toNatClampNeg (mI m (235 + 3 * i0) 2)) 0) (235 + 3 * i0) 2) + 1))))) : V m2_deepen 0 [some (.ref (235 + 3 * i0))] [] m K := by
  refine r_aload_n (y := m2_deepen) dX2_deepen_0 rfl rfl ?_
  refine g_X2_18 (y := m2_deepen) (i := i0) rfl dX2_deepen_1 hm hi0 ?_
  refine r_bipush (y := m2_deepen) (v := 40) dX2_deepen_4 (by decide) ?_
  refine r_icmp_ge (y := m2_deepen) (tgt := 29) dX2_deepen_6 (by decide) (fun hc1 => ?_) (fun hc1 => ?_)
  · have h := h.1 hc1
    exact r_ret (y := m2_deepen) dX2_deepen_29 rfl h
  · have h := h.2 hc1
    refine r_aload_n (y := m2_deepen) dX2_deepen_9 rfl rfl ?_
    refine g_X2_9 (y := m2_deepen) (i := i0) rfl dX2_deepen_10 hm hi0 ?_
    refine r_aload_n (y := m2_deepen) dX2_deepen_13 rfl rfl ?_
    refine g_X2_18 (y := m2_deepen) (i := i0) rfl dX2_deepen_14 hm hi0 ?_
    refine r_iconst (y := m2_deepen) (v := 0) dX2_deepen_17 (by decide) ?_
    obtain ⟨hb2, h⟩ := h
    refine r_iast (y := m2_deepen) (n := 40) dX2_deepen_18 (sa_lw hm hi0) hb2 ?_
    refine r_aload_n (y := m2_deepen) dX2_deepen_19 rfl rfl ?_
    refine r_dup_r (y := m2_deepen) dX2_deepen_20 ?_
    refine g_X2_18 (y := m2_deepen) (i := i0) rfl dX2_deepen_21 (St.i hm) hi0 ?_
    refine r_iconst (y := m2_deepen) (v := 1) dX2_deepen_24 (by decide) ?_
    refine r_iadd (y := m2_deepen) dX2_deepen_25 ?_
    refine p_X2_18 (y := m2_deepen) (i := i0) rfl dX2_deepen_26 (St.i hm) hi0 ?_
    exact r_ret (y := m2_deepen) dX2_deepen_29 rfl h
