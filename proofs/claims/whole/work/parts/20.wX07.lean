/-! written by gen/drive.py -/
set_option maxHeartbeats 4000000 in
set_option maxRecDepth 100000 in
theorem w7_open {m : Mm} {K : Option Value ⊕ String → Mm → Prop} (hm : St m) {i0 : Nat} {e0 ne0 : Nat} {e1 ne1 : Nat} {e2 ne2 : Nat} (hi0 : i0 < 102) (he0 : isExp m e0 ne0) (he1 : isExp m e1 ne1) (he2 : isExp m e2 ne2) (h : St (mSetR m (31 + 2 * i0) 1 (some e0)) ∧ St (mSetR (mSetR m (31 + 2 * i0) 1 (some e0)) (31 + 2 * i0) 2 (some e1)) ∧ St (mSetR (mSetR (mSetR m (31 + 2 * i0) 1 (some e0)) (31 + 2 * i0) 2 (some e1)) (31 + 2 * i0) 3 (some e2)) ∧ V m7_open 18 [some (.ref (31 + 2 * i0)), some (.ref e0), some (.ref e1), some (.ref e2), some (.int 0)] [] (mSetR (mSetR (mSetR m (31 + 2 * i0) 1 (some e0)) (31 + 2 * i0) 2 (some e1)) (31 + 2 * i0) 3 (some e2)) K) : V m7_open 0 [some (.ref (31 + 2 * i0)), some (.ref e0), some (.ref e1), some (.ref e2), none] [] m K := by
  refine r_aload_n (y := m7_open) dX7_open_0 rfl rfl ?_
  refine r_aload_n (y := m7_open) dX7_open_1 rfl rfl ?_
  refine p_X7_15 (y := m7_open) (i := i0) rfl dX7_open_2 hm hi0 ?_
  obtain ⟨hm1, h⟩ := h
  refine r_aload_n (y := m7_open) dX7_open_5 rfl rfl ?_
  refine r_aload_n (y := m7_open) dX7_open_6 rfl rfl ?_
  refine p_X7_19 (y := m7_open) (i := i0) rfl dX7_open_7 hm1 hi0 ?_
  obtain ⟨hm2, h⟩ := h
  refine r_aload_n (y := m7_open) dX7_open_10 rfl rfl ?_
  refine r_aload_n (y := m7_open) dX7_open_11 rfl rfl ?_
  refine p_X7_22 (y := m7_open) (i := i0) rfl dX7_open_12 hm2 hi0 ?_
  obtain ⟨hm3, h⟩ := h
  refine r_iconst (y := m7_open) (v := 0) dX7_open_15 (by decide) ?_
  refine r_istore (y := m7_open) (L' := [some (.ref (31 + 2 * i0)), some (.ref e0), some (.ref e1), some (.ref e2), some (.int 0)]) dX7_open_16 (Nat.le_of_ble_eq_true rfl) rfl ?_
  exact h
set_option maxHeartbeats 4000000 in
set_option maxRecDepth 100000 in
theorem w7_open_18 {m : Mm} {K : Option Value ⊕ String → Mm → Prop} (hm : St m) {jj0 : Nat} {ee1 nn1 : Nat} {ee2 nn2 : Nat} {ee3 nn3 : Nat} {v4 : Int32} (hjj0 : jj0 < 102) (hee1 : isExp m ee1 nn1) (hee2 : isExp m ee2 nn2) (hee3 : isExp m ee3 nn3) (h : ((6 ≤ v4 → K (.inl none) m) ∧ (¬ 6 ≤ v4 → vp_in v4 6 ∧ V m7_open 18 [some (.ref (31 + 2 * jj0)), some (.ref ee1), some (.ref ee2), some (.ref ee3), some (.int (v4 + 1))] [] (mSetI m (32 + 2 * jj0) (Int32.toNatClampNeg v4) (-1)) K))) : V m7_open 18 [some (.ref (31 + 2 * jj0)), some (.ref ee1), some (.ref ee2), some (.ref ee3), some (.int v4)] [] m K := by
  refine r_iload (y := m7_open) dX7_open_18 rfl ?_
  refine r_bipush (y := m7_open) (v := 6) dX7_open_20 (by decide) ?_
  refine r_icmp_ge (y := m7_open) (tgt := 39) dX7_open_22 (by decide) (fun hc1 => ?_) (fun hc1 => ?_)
  · have h := h.1 hc1
    exact r_ret (y := m7_open) dX7_open_39 rfl h
  · have h := h.2 hc1
    refine r_aload_n (y := m7_open) dX7_open_25 rfl rfl ?_
    refine g_X7_9 (y := m7_open) (i := jj0) rfl dX7_open_26 hm hjj0 ?_
    refine r_iload (y := m7_open) dX7_open_29 rfl ?_
    refine r_iconst (y := m7_open) (v := (-1)) dX7_open_31 (by decide) ?_
    obtain ⟨hb2, h⟩ := h
    refine r_iast (y := m7_open) (n := 6) dX7_open_32 (sa_st hm hjj0) hb2 ?_
    refine r_iinc (y := m7_open) (v := (v4 + 1)) (L' := [some (.ref (31 + 2 * jj0)), some (.ref ee1), some (.ref ee2), some (.ref ee3), some (.int (v4 + 1))]) dX7_open_33 rfl (by rfl) rfl ?_
    refine r_goto (y := m7_open) (tgt := 18) dX7_open_36 (by decide) ?_
    exact h
