/-! written by gen/scopes.py -/
set_option maxHeartbeats 4000000 in
set_option maxRecDepth 100000 in
theorem w7_openNN {m : Mm} {K : Option Value ⊕ String → Mm → Prop} (hm : St m) {i0 : Nat} {e2 ne2 : Nat} (hi0 : i0 < 102) (he2 : isExp m e2 ne2) (h : St (mSetR m (31 + 2 * i0) 1 none) ∧ St (mSetR (mSetR m (31 + 2 * i0) 1 none) (31 + 2 * i0) 2 none) ∧ St (mSetR (mSetR (mSetR m (31 + 2 * i0) 1 none) (31 + 2 * i0) 2 none) (31 + 2 * i0) 3 (some e2)) ∧ V m7_open 18 [some (.ref (31 + 2 * i0)), some .null, some .null, some (.ref e2), some (.int 0)] [] (mSetR (mSetR (mSetR m (31 + 2 * i0) 1 none) (31 + 2 * i0) 2 none) (31 + 2 * i0) 3 (some e2)) K) : V m7_open 0 [some (.ref (31 + 2 * i0)), some .null, some .null, some (.ref e2), none] [] m K := by
  refine r_aload_n (y := m7_open) dX7_open_0 rfl rfl ?_
  refine r_aload_nN (y := m7_open) dX7_open_1 rfl rfl ?_
  refine p_X7_15N (y := m7_open) (i := i0) rfl dX7_open_2 hm hi0 ?_
  obtain ⟨hm1, h⟩ := h
  refine r_aload_n (y := m7_open) dX7_open_5 rfl rfl ?_
  refine r_aload_nN (y := m7_open) dX7_open_6 rfl rfl ?_
  refine p_X7_19N (y := m7_open) (i := i0) rfl dX7_open_7 hm1 hi0 ?_
  obtain ⟨hm2, h⟩ := h
  refine r_aload_n (y := m7_open) dX7_open_10 rfl rfl ?_
  refine r_aload_n (y := m7_open) dX7_open_11 rfl rfl ?_
  refine p_X7_22 (y := m7_open) (i := i0) rfl dX7_open_12 hm2 hi0 ?_
  obtain ⟨hm3, h⟩ := h
  refine r_iconst (y := m7_open) (v := 0) dX7_open_15 (by decide) ?_
  refine r_istore (y := m7_open) (L' := [some (.ref (31 + 2 * i0)), some .null, some .null, some (.ref e2), some (.int 0)]) dX7_open_16 (Nat.le_of_ble_eq_true rfl) rfl ?_
  exact h
set_option maxHeartbeats 4000000 in
set_option maxRecDepth 100000 in
theorem w7_openRN {m : Mm} {K : Option Value ⊕ String → Mm → Prop} (hm : St m) {i0 : Nat} {e0 ne0 : Nat} {e2 ne2 : Nat} (hi0 : i0 < 102) (he0 : isExp m e0 ne0) (he2 : isExp m e2 ne2) (h : St (mSetR m (31 + 2 * i0) 1 (some e0)) ∧ St (mSetR (mSetR m (31 + 2 * i0) 1 (some e0)) (31 + 2 * i0) 2 none) ∧ St (mSetR (mSetR (mSetR m (31 + 2 * i0) 1 (some e0)) (31 + 2 * i0) 2 none) (31 + 2 * i0) 3 (some e2)) ∧ V m7_open 18 [some (.ref (31 + 2 * i0)), some (.ref e0), some .null, some (.ref e2), some (.int 0)] [] (mSetR (mSetR (mSetR m (31 + 2 * i0) 1 (some e0)) (31 + 2 * i0) 2 none) (31 + 2 * i0) 3 (some e2)) K) : V m7_open 0 [some (.ref (31 + 2 * i0)), some (.ref e0), some .null, some (.ref e2), none] [] m K := by
  refine r_aload_n (y := m7_open) dX7_open_0 rfl rfl ?_
  refine r_aload_n (y := m7_open) dX7_open_1 rfl rfl ?_
  refine p_X7_15 (y := m7_open) (i := i0) rfl dX7_open_2 hm hi0 ?_
  obtain ⟨hm1, h⟩ := h
  refine r_aload_n (y := m7_open) dX7_open_5 rfl rfl ?_
  refine r_aload_nN (y := m7_open) dX7_open_6 rfl rfl ?_
  refine p_X7_19N (y := m7_open) (i := i0) rfl dX7_open_7 hm1 hi0 ?_
  obtain ⟨hm2, h⟩ := h
  refine r_aload_n (y := m7_open) dX7_open_10 rfl rfl ?_
  refine r_aload_n (y := m7_open) dX7_open_11 rfl rfl ?_
  refine p_X7_22 (y := m7_open) (i := i0) rfl dX7_open_12 hm2 hi0 ?_
  obtain ⟨hm3, h⟩ := h
  refine r_iconst (y := m7_open) (v := 0) dX7_open_15 (by decide) ?_
  refine r_istore (y := m7_open) (L' := [some (.ref (31 + 2 * i0)), some (.ref e0), some .null, some (.ref e2), some (.int 0)]) dX7_open_16 (Nat.le_of_ble_eq_true rfl) rfl ?_
  exact h
set_option maxHeartbeats 4000000 in
set_option maxRecDepth 100000 in
theorem w7_openL_18 {m : Mm} {K : Option Value ⊕ String → Mm → Prop} (hm : St m) {i0 : Nat} {v4 : Int32} (hi0 : i0 < 102) (h : ((6 ≤ v4 → K (.inl none) m) ∧ (¬ 6 ≤ v4 → vp_in v4 6 ∧ V m7_open 18 [some (.ref (31 + 2 * i0)), none, none, none, some (.int (v4 + 1))] [] (mSetI m (32 + 2 * i0) (Int32.toNatClampNeg v4) (-1)) K))) : V m7_open 18 [some (.ref (31 + 2 * i0)), none, none, none, some (.int v4)] [] m K := by
  refine r_iload (y := m7_open) dX7_open_18 rfl ?_
  refine r_bipush (y := m7_open) (v := 6) dX7_open_20 (by decide) ?_
  refine r_icmp_ge (y := m7_open) (tgt := 39) dX7_open_22 (by decide) (fun hc1 => ?_) (fun hc1 => ?_)
  · have h := h.1 hc1
    exact r_ret (y := m7_open) dX7_open_39 rfl h
  · have h := h.2 hc1
    refine r_aload_n (y := m7_open) dX7_open_25 rfl rfl ?_
    refine g_X7_9 (y := m7_open) (i := i0) rfl dX7_open_26 hm hi0 ?_
    refine r_iload (y := m7_open) dX7_open_29 rfl ?_
    refine r_iconst (y := m7_open) (v := (-1)) dX7_open_31 (by decide) ?_
    obtain ⟨hb2, h⟩ := h
    refine r_iast (y := m7_open) (n := 6) dX7_open_32 (sa_st hm hi0) hb2 ?_
    refine r_iinc (y := m7_open) (v := (v4 + 1)) (L' := [some (.ref (31 + 2 * i0)), none, none, none, some (.int (v4 + 1))]) dX7_open_33 rfl (by rfl) rfl ?_
    refine r_goto (y := m7_open) (tgt := 18) dX7_open_36 (by decide) ?_
    exact h
set_option maxHeartbeats 4000000 in
set_option maxRecDepth 100000 in
theorem w3_openScopeNN {m : Mm} {K : Option Value ⊕ String → Mm → Prop} (hm : St m) {e2 ne2 : Nat} (he2 : isExp m e2 ne2) (h : ((102 ≤ (mI m 12 8) → vp_in 101 102 ∧ C m7_open [(.ref (31 + 2 * 101)), .null, .null, (.ref e2)] m (fun o m4 => o = .inl none ∧ St m4 ∧ K (.inl (some (.int 101))) (mSetI m4 12 8 (101 + 1)))) ∧ (¬ 102 ≤ (mI m 12 8) → vp_in (mI m 12 8) 102 ∧ C m7_open [(.ref (31 + 2 * (Int32.toNatClampNeg (mI m 12 8)))), .null, .null, (.ref e2)] m (fun o m8 => o = .inl none ∧ St m8 ∧ K (.inl (some (.int (mI m 12 8)))) (mSetI m8 12 8 ((mI m 12 8) + 1)))))) : V m3_openScope 0 [some (.ref 12), some .null, some .null, some (.ref e2), none] [] m K := by
  refine r_aload_n (y := m3_openScope) dX3_openScope_0 rfl rfl ?_
  refine g_X3_45 (y := m3_openScope) rfl dX3_openScope_1 hm ?_
  refine r_bipush (y := m3_openScope) (v := 102) dX3_openScope_4 (by decide) ?_
  refine r_icmp_ge (y := m3_openScope) (tgt := 16) dX3_openScope_6 (by decide) (fun hc1 => ?_) (fun hc1 => ?_)
  · have h := h.1 hc1
    refine r_bipush (y := m3_openScope) (v := 101) dX3_openScope_16 (by decide) ?_
    refine r_istore (y := m3_openScope) (L' := [some (.ref 12), some .null, some .null, some (.ref e2), some (.int 101)]) dX3_openScope_18 (Nat.le_of_ble_eq_true rfl) rfl ?_
    refine r_aload_n (y := m3_openScope) dX3_openScope_20 rfl rfl ?_
    refine g_X3_27 (y := m3_openScope) rfl dX3_openScope_21 hm ?_
    refine r_iload (y := m3_openScope) dX3_openScope_24 rfl ?_
    obtain ⟨hb2, h⟩ := h
    have hl3 := vp_lt hb2
    refine r_aald (y := m3_openScope) (n := 102) (r := some (31 + 2 * 101)) dX3_openScope_26 (sa_28 hm) (by decide) (by decide) hb2 (sr_sc hm hl3) ?_
    refine r_aload_nN (y := m3_openScope) dX3_openScope_27 rfl rfl ?_
    refine r_aload_nN (y := m3_openScope) dX3_openScope_28 rfl rfl ?_
    refine r_aload_n (y := m3_openScope) dX3_openScope_29 rfl rfl ?_
    refine r_callVN (y := m3_openScope) (As := [.null, .null, (.ref e2)]) (b := (31 + 2 * 101)) (ci := 7) dX3_openScope_30 rfl k7_open lm_X3_188 rfl ⟨by decide, by decide⟩ (so_sc hm hl3) (by decide) rfl (Nat.le_of_ble_eq_true rfl) (C.mono h ?_)
    rintro _ m4 ⟨rfl, hm5, h⟩
    refine ⟨none, rfl, ?_⟩
    refine r_aload_n (y := m3_openScope) dX3_openScope_33 rfl rfl ?_
    refine r_iload (y := m3_openScope) dX3_openScope_34 rfl ?_
    refine r_iconst (y := m3_openScope) (v := 1) dX3_openScope_36 (by decide) ?_
    refine r_iadd (y := m3_openScope) dX3_openScope_37 ?_
    refine p_X3_45 (y := m3_openScope) rfl dX3_openScope_38 hm5 ?_
    refine r_iload (y := m3_openScope) dX3_openScope_41 rfl ?_
    exact r_iret (y := m3_openScope) dX3_openScope_43 rfl rfl h
  · have h := h.2 hc1
    refine r_aload_n (y := m3_openScope) dX3_openScope_9 rfl rfl ?_
    refine g_X3_45 (y := m3_openScope) rfl dX3_openScope_10 hm ?_
    refine r_goto (y := m3_openScope) (tgt := 18) dX3_openScope_13 (by decide) ?_
    refine r_istore (y := m3_openScope) (L' := [some (.ref 12), some .null, some .null, some (.ref e2), some (.int (mI m 12 8))]) dX3_openScope_18 (Nat.le_of_ble_eq_true rfl) rfl ?_
    refine r_aload_n (y := m3_openScope) dX3_openScope_20 rfl rfl ?_
    refine g_X3_27 (y := m3_openScope) rfl dX3_openScope_21 hm ?_
    refine r_iload (y := m3_openScope) dX3_openScope_24 rfl ?_
    obtain ⟨hb6, h⟩ := h
    have hl7 := vp_lt hb6
    refine r_aald (y := m3_openScope) (n := 102) (r := some (31 + 2 * (Int32.toNatClampNeg (mI m 12 8)))) dX3_openScope_26 (sa_28 hm) (by decide) (by decide) hb6 (sr_sc hm hl7) ?_
    refine r_aload_nN (y := m3_openScope) dX3_openScope_27 rfl rfl ?_
    refine r_aload_nN (y := m3_openScope) dX3_openScope_28 rfl rfl ?_
    refine r_aload_n (y := m3_openScope) dX3_openScope_29 rfl rfl ?_
    refine r_callVN (y := m3_openScope) (As := [.null, .null, (.ref e2)]) (b := (31 + 2 * (Int32.toNatClampNeg (mI m 12 8)))) (ci := 7) dX3_openScope_30 rfl k7_open lm_X3_188 rfl ⟨by decide, by decide⟩ (so_sc hm hl7) (by decide) rfl (Nat.le_of_ble_eq_true rfl) (C.mono h ?_)
    rintro _ m8 ⟨rfl, hm9, h⟩
    refine ⟨none, rfl, ?_⟩
    refine r_aload_n (y := m3_openScope) dX3_openScope_33 rfl rfl ?_
    refine r_iload (y := m3_openScope) dX3_openScope_34 rfl ?_
    refine r_iconst (y := m3_openScope) (v := 1) dX3_openScope_36 (by decide) ?_
    refine r_iadd (y := m3_openScope) dX3_openScope_37 ?_
    refine p_X3_45 (y := m3_openScope) rfl dX3_openScope_38 hm9 ?_
    refine r_iload (y := m3_openScope) dX3_openScope_41 rfl ?_
    exact r_iret (y := m3_openScope) dX3_openScope_43 rfl rfl h
set_option maxHeartbeats 4000000 in
set_option maxRecDepth 100000 in
theorem w3_openScopeRN {m : Mm} {K : Option Value ⊕ String → Mm → Prop} (hm : St m) {e0 ne0 : Nat} {e2 ne2 : Nat} (he0 : isExp m e0 ne0) (he2 : isExp m e2 ne2) (h : ((102 ≤ (mI m 12 8) → vp_in 101 102 ∧ C m7_open [(.ref (31 + 2 * 101)), (.ref e0), .null, (.ref e2)] m (fun o m4 => o = .inl none ∧ St m4 ∧ K (.inl (some (.int 101))) (mSetI m4 12 8 (101 + 1)))) ∧ (¬ 102 ≤ (mI m 12 8) → vp_in (mI m 12 8) 102 ∧ C m7_open [(.ref (31 + 2 * (Int32.toNatClampNeg (mI m 12 8)))), (.ref e0), .null, (.ref e2)] m (fun o m8 => o = .inl none ∧ St m8 ∧ K (.inl (some (.int (mI m 12 8)))) (mSetI m8 12 8 ((mI m 12 8) + 1)))))) : V m3_openScope 0 [some (.ref 12), some (.ref e0), some .null, some (.ref e2), none] [] m K := by
  refine r_aload_n (y := m3_openScope) dX3_openScope_0 rfl rfl ?_
  refine g_X3_45 (y := m3_openScope) rfl dX3_openScope_1 hm ?_
  refine r_bipush (y := m3_openScope) (v := 102) dX3_openScope_4 (by decide) ?_
  refine r_icmp_ge (y := m3_openScope) (tgt := 16) dX3_openScope_6 (by decide) (fun hc1 => ?_) (fun hc1 => ?_)
  · have h := h.1 hc1
    refine r_bipush (y := m3_openScope) (v := 101) dX3_openScope_16 (by decide) ?_
    refine r_istore (y := m3_openScope) (L' := [some (.ref 12), some (.ref e0), some .null, some (.ref e2), some (.int 101)]) dX3_openScope_18 (Nat.le_of_ble_eq_true rfl) rfl ?_
    refine r_aload_n (y := m3_openScope) dX3_openScope_20 rfl rfl ?_
    refine g_X3_27 (y := m3_openScope) rfl dX3_openScope_21 hm ?_
    refine r_iload (y := m3_openScope) dX3_openScope_24 rfl ?_
    obtain ⟨hb2, h⟩ := h
    have hl3 := vp_lt hb2
    refine r_aald (y := m3_openScope) (n := 102) (r := some (31 + 2 * 101)) dX3_openScope_26 (sa_28 hm) (by decide) (by decide) hb2 (sr_sc hm hl3) ?_
    refine r_aload_n (y := m3_openScope) dX3_openScope_27 rfl rfl ?_
    refine r_aload_nN (y := m3_openScope) dX3_openScope_28 rfl rfl ?_
    refine r_aload_n (y := m3_openScope) dX3_openScope_29 rfl rfl ?_
    refine r_callVN (y := m3_openScope) (As := [(.ref e0), .null, (.ref e2)]) (b := (31 + 2 * 101)) (ci := 7) dX3_openScope_30 rfl k7_open lm_X3_188 rfl ⟨by decide, by decide⟩ (so_sc hm hl3) (by decide) rfl (Nat.le_of_ble_eq_true rfl) (C.mono h ?_)
    rintro _ m4 ⟨rfl, hm5, h⟩
    refine ⟨none, rfl, ?_⟩
    refine r_aload_n (y := m3_openScope) dX3_openScope_33 rfl rfl ?_
    refine r_iload (y := m3_openScope) dX3_openScope_34 rfl ?_
    refine r_iconst (y := m3_openScope) (v := 1) dX3_openScope_36 (by decide) ?_
    refine r_iadd (y := m3_openScope) dX3_openScope_37 ?_
    refine p_X3_45 (y := m3_openScope) rfl dX3_openScope_38 hm5 ?_
    refine r_iload (y := m3_openScope) dX3_openScope_41 rfl ?_
    exact r_iret (y := m3_openScope) dX3_openScope_43 rfl rfl h
  · have h := h.2 hc1
    refine r_aload_n (y := m3_openScope) dX3_openScope_9 rfl rfl ?_
    refine g_X3_45 (y := m3_openScope) rfl dX3_openScope_10 hm ?_
    refine r_goto (y := m3_openScope) (tgt := 18) dX3_openScope_13 (by decide) ?_
    refine r_istore (y := m3_openScope) (L' := [some (.ref 12), some (.ref e0), some .null, some (.ref e2), some (.int (mI m 12 8))]) dX3_openScope_18 (Nat.le_of_ble_eq_true rfl) rfl ?_
    refine r_aload_n (y := m3_openScope) dX3_openScope_20 rfl rfl ?_
    refine g_X3_27 (y := m3_openScope) rfl dX3_openScope_21 hm ?_
    refine r_iload (y := m3_openScope) dX3_openScope_24 rfl ?_
    obtain ⟨hb6, h⟩ := h
    have hl7 := vp_lt hb6
    refine r_aald (y := m3_openScope) (n := 102) (r := some (31 + 2 * (Int32.toNatClampNeg (mI m 12 8)))) dX3_openScope_26 (sa_28 hm) (by decide) (by decide) hb6 (sr_sc hm hl7) ?_
    refine r_aload_n (y := m3_openScope) dX3_openScope_27 rfl rfl ?_
    refine r_aload_nN (y := m3_openScope) dX3_openScope_28 rfl rfl ?_
    refine r_aload_n (y := m3_openScope) dX3_openScope_29 rfl rfl ?_
    refine r_callVN (y := m3_openScope) (As := [(.ref e0), .null, (.ref e2)]) (b := (31 + 2 * (Int32.toNatClampNeg (mI m 12 8)))) (ci := 7) dX3_openScope_30 rfl k7_open lm_X3_188 rfl ⟨by decide, by decide⟩ (so_sc hm hl7) (by decide) rfl (Nat.le_of_ble_eq_true rfl) (C.mono h ?_)
    rintro _ m8 ⟨rfl, hm9, h⟩
    refine ⟨none, rfl, ?_⟩
    refine r_aload_n (y := m3_openScope) dX3_openScope_33 rfl rfl ?_
    refine r_iload (y := m3_openScope) dX3_openScope_34 rfl ?_
    refine r_iconst (y := m3_openScope) (v := 1) dX3_openScope_36 (by decide) ?_
    refine r_iadd (y := m3_openScope) dX3_openScope_37 ?_
    refine p_X3_45 (y := m3_openScope) rfl dX3_openScope_38 hm9 ?_
    refine r_iload (y := m3_openScope) dX3_openScope_41 rfl ?_
    exact r_iret (y := m3_openScope) dX3_openScope_43 rfl rfl h
set_option maxHeartbeats 4000000 in
set_option maxRecDepth 100000 in
theorem u3_startCallR_80 {m : Mm} {K : Option Value ⊕ String → Mm → Prop} (hm : St m) {v1 : Int32} {v2 : Int32} {v3 : Int32} {v4 : Int32} {v5 : Int32} {s0 : Nat} (hs0 : isRul m s0) (h : C m3_doStep [(.ref 12)] m (fun o m1 => ∃ x3 : Int32, o = .inl (some (.int x3)) ∧ St m1 ∧ ((¬ x3 = 0 → isRul m1 s0 ∧ ((mR m1 s0 0 = none → ((mR m1 s0 1 = none → ∃ q10 : Nat, mR m1 s0 2 = some q10 ∧ C m3_openScope [(.ref 12), .null, .null, (.ref q10)] m1 (fun o m12 => ∃ x14 : Int32, o = .inl (some (.int x14)) ∧ St m12 ∧ V m3_startCall 122 [some (.ref 12), some (.int v1), some (.int v2), some (.int v3), some (.int v4), some (.int v5), some (.ref s0)] [(.int x14), (.int v1), (.ref 18)] m12 K)) ∧ (∀ q8 : Nat, mR m1 s0 1 = some q8 → ∃ q15 : Nat, mR m1 s0 2 = some q15 ∧ C m3_openScope [(.ref 12), .null, (.ref q8), (.ref q15)] m1 (fun o m17 => ∃ x19 : Int32, o = .inl (some (.int x19)) ∧ St m17 ∧ V m3_startCall 122 [some (.ref 12), some (.int v1), some (.int v2), some (.int v3), some (.int v4), some (.int v5), some (.ref s0)] [(.int x19), (.int v1), (.ref 18)] m17 K)))) ∧ (∀ q6 : Nat, mR m1 s0 0 = some q6 → ((mR m1 s0 1 = none → ∃ q22 : Nat, mR m1 s0 2 = some q22 ∧ C m3_openScope [(.ref 12), (.ref q6), .null, (.ref q22)] m1 (fun o m24 => ∃ x26 : Int32, o = .inl (some (.int x26)) ∧ St m24 ∧ V m3_startCall 122 [some (.ref 12), some (.int v1), some (.int v2), some (.int v3), some (.int v4), some (.int v5), some (.ref s0)] [(.int x26), (.int v1), (.ref 18)] m24 K)) ∧ (∀ q20 : Nat, mR m1 s0 1 = some q20 → ∃ q27 : Nat, mR m1 s0 2 = some q27 ∧ C m3_openScope [(.ref 12), (.ref q6), (.ref q20), (.ref q27)] m1 (fun o m29 => ∃ x31 : Int32, o = .inl (some (.int x31)) ∧ St m29 ∧ V m3_startCall 122 [some (.ref 12), some (.int v1), some (.int v2), some (.int v3), some (.int v4), some (.int v5), some (.ref s0)] [(.int x31), (.int v1), (.ref 18)] m29 K)))))) ∧ (x3 = 0 → V m3_startCall 94 [some (.ref 12), some (.int v1), some (.int v2), some (.int v3), some (.int v4), some (.int v5), some (.ref s0)] [] m1 K)))) : V m3_startCall 80 [some (.ref 12), some (.int v1), some (.int v2), some (.int v3), some (.int v4), some (.int v5), none] [(.ref s0)] m K := by
  refine r_astore (y := m3_startCall) (L' := [some (.ref 12), some (.int v1), some (.int v2), some (.int v3), some (.int v4), some (.int v5), some (.ref s0)]) dX3_startCall_80 (Nat.le_of_ble_eq_true rfl) rfl ?_
  refine r_aload (y := m3_startCall) dX3_startCall_82 rfl ?_
  refine r_ifnull (y := m3_startCall) dX3_startCall_84 ?_
  refine r_aload_n (y := m3_startCall) dX3_startCall_87 rfl rfl ?_
  refine r_callV (y := m3_startCall) (As := []) (b := 12) (ci := 3) dX3_startCall_88 rfl k3_doStep lm_X3_267 rfl ⟨by decide, by decide⟩ (so_12 hm) (by decide) rfl (Nat.le_of_ble_eq_true rfl) (C.mono h ?_)
  rintro _ m1 ⟨x3, rfl, hm2, h⟩
  refine ⟨_, rfl, ?_⟩
  refine r_if_ne (y := m3_startCall) (tgt := 95) dX3_startCall_91 (by decide) (fun hc4 => ?_) (fun hc4 => ?_)
  · have h := h.1 hc4
    refine r_aload_n (y := m3_startCall) dX3_startCall_95 rfl rfl ?_
    refine g_X3_12 (y := m3_startCall) rfl dX3_startCall_96 hm2 ?_
    refine g_X3_270 (y := m3_startCall) rfl dX3_startCall_99 hm2 ?_
    refine r_iload_n (y := m3_startCall) dX3_startCall_102 rfl rfl ?_
    refine r_aload_n (y := m3_startCall) dX3_startCall_103 rfl rfl ?_
    refine r_aload (y := m3_startCall) dX3_startCall_104 rfl ?_
    obtain ⟨hx5, h⟩ := h
    rcases hq7 : mR m1 s0 0 with _ | q6
    · have h := h.1 hq7
      refine g_X3_272 (y := m3_startCall) rfl dX3_startCall_106 hx5 (q := none) hq7 ?_
      refine r_aload (y := m3_startCall) dX3_startCall_109 rfl ?_
      rcases hq9 : mR m1 s0 1 with _ | q8
      · have h := h.1 hq9
        refine g_X3_277 (y := m3_startCall) rfl dX3_startCall_111 hx5 (q := none) hq9 ?_
        refine r_aload (y := m3_startCall) dX3_startCall_114 rfl ?_
        obtain ⟨q10, hq11, h⟩ := h
        refine g_X3_280 (y := m3_startCall) rfl dX3_startCall_116 hx5 (q := some q10) hq11 ?_
        refine r_callV (y := m3_startCall) (As := [.null, .null, (.ref q10)]) (b := 12) (ci := 3) dX3_startCall_119 rfl k3_openScope lm_X3_76 rfl ⟨by decide, by decide⟩ (so_12 hm2) (by decide) rfl (Nat.le_of_ble_eq_true rfl) (C.mono h ?_)
        rintro _ m12 ⟨x14, rfl, hm13, h⟩
        refine ⟨_, rfl, ?_⟩
        exact h
      · have h := h.2 q8 hq9
        refine g_X3_277 (y := m3_startCall) rfl dX3_startCall_111 hx5 (q := some q8) hq9 ?_
        refine r_aload (y := m3_startCall) dX3_startCall_114 rfl ?_
        obtain ⟨q15, hq16, h⟩ := h
        refine g_X3_280 (y := m3_startCall) rfl dX3_startCall_116 hx5 (q := some q15) hq16 ?_
        refine r_callV (y := m3_startCall) (As := [.null, (.ref q8), (.ref q15)]) (b := 12) (ci := 3) dX3_startCall_119 rfl k3_openScope lm_X3_76 rfl ⟨by decide, by decide⟩ (so_12 hm2) (by decide) rfl (Nat.le_of_ble_eq_true rfl) (C.mono h ?_)
        rintro _ m17 ⟨x19, rfl, hm18, h⟩
        refine ⟨_, rfl, ?_⟩
        exact h
    · have h := h.2 q6 hq7
      refine g_X3_272 (y := m3_startCall) rfl dX3_startCall_106 hx5 (q := some q6) hq7 ?_
      refine r_aload (y := m3_startCall) dX3_startCall_109 rfl ?_
      rcases hq21 : mR m1 s0 1 with _ | q20
      · have h := h.1 hq21
        refine g_X3_277 (y := m3_startCall) rfl dX3_startCall_111 hx5 (q := none) hq21 ?_
        refine r_aload (y := m3_startCall) dX3_startCall_114 rfl ?_
        obtain ⟨q22, hq23, h⟩ := h
        refine g_X3_280 (y := m3_startCall) rfl dX3_startCall_116 hx5 (q := some q22) hq23 ?_
        refine r_callV (y := m3_startCall) (As := [(.ref q6), .null, (.ref q22)]) (b := 12) (ci := 3) dX3_startCall_119 rfl k3_openScope lm_X3_76 rfl ⟨by decide, by decide⟩ (so_12 hm2) (by decide) rfl (Nat.le_of_ble_eq_true rfl) (C.mono h ?_)
        rintro _ m24 ⟨x26, rfl, hm25, h⟩
        refine ⟨_, rfl, ?_⟩
        exact h
      · have h := h.2 q20 hq21
        refine g_X3_277 (y := m3_startCall) rfl dX3_startCall_111 hx5 (q := some q20) hq21 ?_
        refine r_aload (y := m3_startCall) dX3_startCall_114 rfl ?_
        obtain ⟨q27, hq28, h⟩ := h
        refine g_X3_280 (y := m3_startCall) rfl dX3_startCall_116 hx5 (q := some q27) hq28 ?_
        refine r_callV (y := m3_startCall) (As := [(.ref q6), (.ref q20), (.ref q27)]) (b := 12) (ci := 3) dX3_startCall_119 rfl k3_openScope lm_X3_76 rfl ⟨by decide, by decide⟩ (so_12 hm2) (by decide) rfl (Nat.le_of_ble_eq_true rfl) (C.mono h ?_)
        rintro _ m29 ⟨x31, rfl, hm30, h⟩
        refine ⟨_, rfl, ?_⟩
        exact h
  · have h := h.2 hc4
    exact h
set_option maxHeartbeats 4000000 in
set_option maxRecDepth 100000 in
theorem u3_startCallR_122 {m : Mm} {K : Option Value ⊕ String → Mm → Prop} (hm : St m) {v1 : Int32} {v2 : Int32} {v3 : Int32} {v4 : Int32} {v5 : Int32} {ee6 : Nat} {s1 : Int32} {s2 : Int32} (hee6 : isRul m ee6) (h : vp_in s1 3500 ∧ C m9_push_ [(.ref 23), (.int 3), (.int v1)] (mSetI m 18 (Int32.toNatClampNeg s1) s2) (fun o m2 => o = .inl none ∧ St m2 ∧ V m3_startCall 132 [some (.ref 12), some (.int v1), some (.int v2), some (.int v3), some (.int v4), some (.int v5), some (.ref ee6)] [] m2 K)) : V m3_startCall 122 [some (.ref 12), some (.int v1), some (.int v2), some (.int v3), some (.int v4), some (.int v5), some (.ref ee6)] [(.int s2), (.int s1), (.ref 18)] m K := by
  obtain ⟨hb1, h⟩ := h
  refine r_iast (y := m3_startCall) (n := 3500) dX3_startCall_122 (sa_18 hm) hb1 ?_
  refine r_aload_n (y := m3_startCall) dX3_startCall_123 rfl rfl ?_
  refine g_X3_21 (y := m3_startCall) rfl dX3_startCall_124 (St.i hm) ?_
  refine r_iconst (y := m3_startCall) (v := 3) dX3_startCall_127 (by decide) ?_
  refine r_iload_n (y := m3_startCall) dX3_startCall_128 rfl rfl ?_
  refine r_callVN (y := m3_startCall) (As := [(.int 3), (.int v1)]) (b := 23) (ci := 9) dX3_startCall_129 rfl k9_push_ lm_X3_93 rfl ⟨by decide, by decide⟩ (so_23 (St.i hm)) (by decide) rfl (Nat.le_of_ble_eq_true rfl) (C.mono h ?_)
  rintro _ m2 ⟨rfl, hm3, h⟩
  refine ⟨none, rfl, ?_⟩
  exact h
set_option maxHeartbeats 4000000 in
set_option maxRecDepth 100000 in
theorem u3_startCallR_94 {m : Mm} {K : Option Value ⊕ String → Mm → Prop} (hm : St m) {v1 : Int32} {v2 : Int32} {v3 : Int32} {v4 : Int32} {v5 : Int32} {ee6 : Nat} (hee6 : isRul m ee6) (h : K (.inl none) m) : V m3_startCall 94 [some (.ref 12), some (.int v1), some (.int v2), some (.int v3), some (.int v4), some (.int v5), some (.ref ee6)] [] m K := by
  exact r_ret (y := m3_startCall) dX3_startCall_94 rfl h
set_option maxHeartbeats 4000000 in
set_option maxRecDepth 100000 in
theorem u3_startCallR_132 {m : Mm} {K : Option Value ⊕ String → Mm → Prop} (hm : St m) {v1 : Int32} {v2 : Int32} {v3 : Int32} {v4 : Int32} {v5 : Int32} {ee6 : Nat} (hee6 : isRul m ee6) (h : ((mR m ee6 1 = none → V m3_startCall 171 [some (.ref 12), some (.int v1), some (.int v2), some (.int v3), some (.int v4), some (.int v5), some (.ref ee6)] [] m K) ∧ (∀ q1 : Nat, mR m ee6 1 = some q1 → ∃ n6 : Nat, isExp m q1 n6 ∧ vp_in v1 3500 ∧ C m9_push [(.ref 23), (.int 2), (.int ((12 + (mI m q1 0)) - 1)), (.int (mI m 17 (Int32.toNatClampNeg v1))), (.int v1)] m (fun o m8 => o = .inl none ∧ St m8 ∧ V m3_startCall 171 [some (.ref 12), some (.int v1), some (.int v2), some (.int v3), some (.int v4), some (.int v5), some (.ref ee6)] [] m8 K)))) : V m3_startCall 132 [some (.ref 12), some (.int v1), some (.int v2), some (.int v3), some (.int v4), some (.int v5), some (.ref ee6)] [] m K := by
  refine r_aload (y := m3_startCall) dX3_startCall_132 rfl ?_
  rcases hq2 : mR m ee6 1 with _ | q1
  · have h := h.1 hq2
    refine g_X3_277 (y := m3_startCall) rfl dX3_startCall_134 hee6 (q := none) hq2 ?_
    refine r_ifnullN (y := m3_startCall) (tgt := 171) dX3_startCall_137 (by decide) ?_
    exact h
  · have h := h.2 q1 hq2
    refine g_X3_277 (y := m3_startCall) rfl dX3_startCall_134 hee6 (q := some q1) hq2 ?_
    refine r_ifnull (y := m3_startCall) dX3_startCall_137 ?_
    refine r_aload_n (y := m3_startCall) dX3_startCall_140 rfl rfl ?_
    refine g_X3_21 (y := m3_startCall) rfl dX3_startCall_141 hm ?_
    refine r_iconst (y := m3_startCall) (v := 2) dX3_startCall_144 (by decide) ?_
    refine r_bipush (y := m3_startCall) (v := 12) dX3_startCall_145 (by decide) ?_
    refine r_aload (y := m3_startCall) dX3_startCall_147 rfl ?_
    refine g_X3_277 (y := m3_startCall) rfl dX3_startCall_149 hee6 (q := some q1) hq2 ?_
    obtain ⟨n6, hx5, h⟩ := h
    refine g_X3_84 (y := m3_startCall) rfl dX3_startCall_152 hx5 ?_
    refine r_iadd (y := m3_startCall) dX3_startCall_155 ?_
    refine r_iconst (y := m3_startCall) (v := 1) dX3_startCall_156 (by decide) ?_
    refine r_isub (y := m3_startCall) dX3_startCall_157 ?_
    refine r_aload_n (y := m3_startCall) dX3_startCall_158 rfl rfl ?_
    refine g_X3_12 (y := m3_startCall) rfl dX3_startCall_159 hm ?_
    refine g_X3_226 (y := m3_startCall) rfl dX3_startCall_162 hm ?_
    refine r_iload_n (y := m3_startCall) dX3_startCall_165 rfl rfl ?_
    obtain ⟨hb7, h⟩ := h
    refine r_iald (y := m3_startCall) (n := 3500) dX3_startCall_166 (sa_17 hm) hb7 ?_
    refine r_iload_n (y := m3_startCall) dX3_startCall_167 rfl rfl ?_
    refine r_callVN (y := m3_startCall) (As := [(.int 2), (.int ((12 + (mI m q1 0)) - 1)), (.int (mI m 17 (Int32.toNatClampNeg v1))), (.int v1)]) (b := 23) (ci := 9) dX3_startCall_168 rfl k9_push lm_X3_186 rfl ⟨by decide, by decide⟩ (so_23 hm) (by decide) rfl (Nat.le_of_ble_eq_true rfl) (C.mono h ?_)
    rintro _ m8 ⟨rfl, hm9, h⟩
    refine ⟨none, rfl, ?_⟩
    exact h
set_option maxHeartbeats 4000000 in
set_option maxRecDepth 100000 in
theorem u3_startCallR_171 {m : Mm} {K : Option Value ⊕ String → Mm → Prop} (hm : St m) {v1 : Int32} {v2 : Int32} {v3 : Int32} {v4 : Int32} {v5 : Int32} {ee6 : Nat} (hee6 : isRul m ee6) (h : ((mR m ee6 0 = none → V m3_startCall 207 [some (.ref 12), some (.int v1), some (.int v2), some (.int v3), some (.int v4), some (.int v5), some (.ref ee6)] [] m K) ∧ (∀ q1 : Nat, mR m ee6 0 = some q1 → ∃ n6 : Nat, isExp m q1 n6 ∧ vp_in v1 3500 ∧ C m9_push [(.ref 23), (.int 2), (.int ((mI m q1 0) - 1)), (.int (mI m 16 (Int32.toNatClampNeg v1))), (.int v1)] m (fun o m8 => o = .inl none ∧ St m8 ∧ V m3_startCall 207 [some (.ref 12), some (.int v1), some (.int v2), some (.int v3), some (.int v4), some (.int v5), some (.ref ee6)] [] m8 K)))) : V m3_startCall 171 [some (.ref 12), some (.int v1), some (.int v2), some (.int v3), some (.int v4), some (.int v5), some (.ref ee6)] [] m K := by
  refine r_aload (y := m3_startCall) dX3_startCall_171 rfl ?_
  rcases hq2 : mR m ee6 0 with _ | q1
  · have h := h.1 hq2
    refine g_X3_272 (y := m3_startCall) rfl dX3_startCall_173 hee6 (q := none) hq2 ?_
    refine r_ifnullN (y := m3_startCall) (tgt := 207) dX3_startCall_176 (by decide) ?_
    exact h
  · have h := h.2 q1 hq2
    refine g_X3_272 (y := m3_startCall) rfl dX3_startCall_173 hee6 (q := some q1) hq2 ?_
    refine r_ifnull (y := m3_startCall) dX3_startCall_176 ?_
    refine r_aload_n (y := m3_startCall) dX3_startCall_179 rfl rfl ?_
    refine g_X3_21 (y := m3_startCall) rfl dX3_startCall_180 hm ?_
    refine r_iconst (y := m3_startCall) (v := 2) dX3_startCall_183 (by decide) ?_
    refine r_aload (y := m3_startCall) dX3_startCall_184 rfl ?_
    refine g_X3_272 (y := m3_startCall) rfl dX3_startCall_186 hee6 (q := some q1) hq2 ?_
    obtain ⟨n6, hx5, h⟩ := h
    refine g_X3_84 (y := m3_startCall) rfl dX3_startCall_189 hx5 ?_
    refine r_iconst (y := m3_startCall) (v := 1) dX3_startCall_192 (by decide) ?_
    refine r_isub (y := m3_startCall) dX3_startCall_193 ?_
    refine r_aload_n (y := m3_startCall) dX3_startCall_194 rfl rfl ?_
    refine g_X3_12 (y := m3_startCall) rfl dX3_startCall_195 hm ?_
    refine g_X3_225 (y := m3_startCall) rfl dX3_startCall_198 hm ?_
    refine r_iload_n (y := m3_startCall) dX3_startCall_201 rfl rfl ?_
    obtain ⟨hb7, h⟩ := h
    refine r_iald (y := m3_startCall) (n := 3500) dX3_startCall_202 (sa_16 hm) hb7 ?_
    refine r_iload_n (y := m3_startCall) dX3_startCall_203 rfl rfl ?_
    refine r_callVN (y := m3_startCall) (As := [(.int 2), (.int ((mI m q1 0) - 1)), (.int (mI m 16 (Int32.toNatClampNeg v1))), (.int v1)]) (b := 23) (ci := 9) dX3_startCall_204 rfl k9_push lm_X3_186 rfl ⟨by decide, by decide⟩ (so_23 hm) (by decide) rfl (Nat.le_of_ble_eq_true rfl) (C.mono h ?_)
    rintro _ m8 ⟨rfl, hm9, h⟩
    refine ⟨none, rfl, ?_⟩
    exact h
set_option maxHeartbeats 4000000 in
set_option maxRecDepth 100000 in
theorem u3_startCallR_207 {m : Mm} {K : Option Value ⊕ String → Mm → Prop} (hm : St m) {v1 : Int32} {v2 : Int32} {v3 : Int32} {v4 : Int32} {v5 : Int32} {ee6 : Nat} (hee6 : isRul m ee6) (h : K (.inl none) m) : V m3_startCall 207 [some (.ref 12), some (.int v1), some (.int v2), some (.int v3), some (.int v4), some (.int v5), some (.ref ee6)] [] m K := by
  exact r_ret (y := m3_startCall) dX3_startCall_207 rfl h
