/-! written by gen/drive.py -/
set_option maxHeartbeats 4000000 in
set_option maxRecDepth 100000 in
theorem w6_addNames {m : Mm} {K : Option Value ⊕ String → Mm → Prop} (hm : St m) {e0 ne0 : Nat} {a1 : Int32} (he0 : isExp m e0 ne0) (h : V m6_addNames 18 [some (.ref e0), some (.int a1), some (.int a1), some (.int (mI m e0 0)), some (.int 0)] [] m K) : V m6_addNames 0 [some (.ref e0), some (.int a1), none, none, none] [] m K := by
  refine r_iload_n (y := m6_addNames) dX6_addNames_0 rfl rfl ?_
  refine r_istore_n (y := m6_addNames) (L' := [some (.ref e0), some (.int a1), some (.int a1), none, none]) dX6_addNames_1 rfl (Nat.le_of_ble_eq_true rfl) rfl ?_
  refine r_aload_n (y := m6_addNames) dX6_addNames_2 rfl rfl ?_
  refine r_ifnonnull (y := m6_addNames) (tgt := 10) dX6_addNames_3 (by decide) ?_
  refine r_aload_n (y := m6_addNames) dX6_addNames_10 rfl rfl ?_
  refine g_X6_33 (y := m6_addNames) rfl dX6_addNames_11 he0 ?_
  refine r_istore_n (y := m6_addNames) (L' := [some (.ref e0), some (.int a1), some (.int a1), some (.int (mI m e0 0)), none]) dX6_addNames_14 rfl (Nat.le_of_ble_eq_true rfl) rfl ?_
  refine r_iconst (y := m6_addNames) (v := 0) dX6_addNames_15 (by decide) ?_
  refine r_istore (y := m6_addNames) (L' := [some (.ref e0), some (.int a1), some (.int a1), some (.int (mI m e0 0)), some (.int 0)]) dX6_addNames_16 (Nat.le_of_ble_eq_true rfl) rfl ?_
  exact h
set_option maxHeartbeats 4000000 in
set_option maxRecDepth 100000 in
theorem w6_addNames_18 {m : Mm} {K : Option Value ⊕ String → Mm → Prop} (hm : St m) {ee0 nn0 : Nat} {v1 : Int32} {v2 : Int32} {v3 : Int32} {v4 : Int32} (hee0 : isExp m ee0 nn0) (h : ((v3 ≤ v4 → K (.inl (some (.int v2))) m) ∧ (¬ v3 ≤ v4 → ((v2 < 0 → K (.inl (some (.int v2))) m) ∧ (¬ v2 < 0 → vp_in v4 nn0 ∧ ((¬ (mI m (ee0 + 1) (Int32.toNatClampNeg v4)) = 0 → vp_in v4 nn0 ∧ (((mI m (ee0 + 1) (Int32.toNatClampNeg v4)) = 1 → V m6_addNames 18 [some (.ref ee0), some (.int v1), some (.int v2), some (.int v3), some (.int (v4 + 1))] [] m K) ∧ (¬ (mI m (ee0 + 1) (Int32.toNatClampNeg v4)) = 1 → V m6_addNames 18 [some (.ref ee0), some (.int v1), some (.int (-1)), some (.int v3), some (.int (v4 + 1))] [] m K))) ∧ ((mI m (ee0 + 1) (Int32.toNatClampNeg v4)) = 0 → vp_in v4 nn0 ∧ ((¬ ((v2 >>> ((mI m (ee0 + 2) (Int32.toNatClampNeg v4)) &&& 31)) &&& 1) = 0 → vp_in v4 nn0 ∧ (((mI m (ee0 + 1) (Int32.toNatClampNeg v4)) = 1 → V m6_addNames 18 [some (.ref ee0), some (.int v1), some (.int v2), some (.int v3), some (.int (v4 + 1))] [] m K) ∧ (¬ (mI m (ee0 + 1) (Int32.toNatClampNeg v4)) = 1 → V m6_addNames 18 [some (.ref ee0), some (.int v1), some (.int (-1)), some (.int v3), some (.int (v4 + 1))] [] m K))) ∧ (((v2 >>> ((mI m (ee0 + 2) (Int32.toNatClampNeg v4)) &&& 31)) &&& 1) = 0 → vp_in v4 nn0 ∧ V m6_addNames 18 [some (.ref ee0), some (.int v1), some (.int (v2 ||| (1 <<< ((mI m (ee0 + 2) (Int32.toNatClampNeg v4)) &&& 31)))), some (.int v3), some (.int (v4 + 1))] [] m K))))))))) : V m6_addNames 18 [some (.ref ee0), some (.int v1), some (.int v2), some (.int v3), some (.int v4)] [] m K := by
  refine r_iload (y := m6_addNames) dX6_addNames_18 rfl ?_
  refine r_iload_n (y := m6_addNames) dX6_addNames_20 rfl rfl ?_
  refine r_icmp_ge (y := m6_addNames) (tgt := 86) dX6_addNames_21 (by decide) (fun hc1 => ?_) (fun hc1 => ?_)
  · have h := h.1 hc1
    refine r_iload_n (y := m6_addNames) dX6_addNames_86 rfl rfl ?_
    exact r_iret (y := m6_addNames) dX6_addNames_87 rfl rfl h
  · have h := h.2 hc1
    refine r_iload_n (y := m6_addNames) dX6_addNames_24 rfl rfl ?_
    refine r_if_lt (y := m6_addNames) (tgt := 86) dX6_addNames_25 (by decide) (fun hc2 => ?_) (fun hc2 => ?_)
    · have h := h.1 hc2
      refine r_iload_n (y := m6_addNames) dX6_addNames_86 rfl rfl ?_
      exact r_iret (y := m6_addNames) dX6_addNames_87 rfl rfl h
    · have h := h.2 hc2
      refine r_aload_n (y := m6_addNames) dX6_addNames_28 rfl rfl ?_
      refine g_X6_38 (y := m6_addNames) rfl dX6_addNames_29 hee0 ?_
      refine r_iload (y := m6_addNames) dX6_addNames_32 rfl ?_
      obtain ⟨hb3, h⟩ := h
      refine r_iald (y := m6_addNames) (n := nn0) dX6_addNames_34 (hee0.2 1 (by decide) (by decide)).2 hb3 ?_
      refine r_if_ne (y := m6_addNames) (tgt := 67) dX6_addNames_35 (by decide) (fun hc4 => ?_) (fun hc4 => ?_)
      · have h := h.1 hc4
        refine r_aload_n (y := m6_addNames) dX6_addNames_67 rfl rfl ?_
        refine g_X6_38 (y := m6_addNames) rfl dX6_addNames_68 hee0 ?_
        refine r_iload (y := m6_addNames) dX6_addNames_71 rfl ?_
        obtain ⟨hb5, h⟩ := h
        refine r_iald (y := m6_addNames) (n := nn0) dX6_addNames_73 (hee0.2 1 (by decide) (by decide)).2 hb5 ?_
        refine r_iconst (y := m6_addNames) (v := 1) dX6_addNames_74 (by decide) ?_
        refine r_icmp_eq (y := m6_addNames) (tgt := 80) dX6_addNames_75 (by decide) (fun hc6 => ?_) (fun hc6 => ?_)
        · have h := h.1 hc6
          refine r_iinc (y := m6_addNames) (v := (v4 + 1)) (L' := [some (.ref ee0), some (.int v1), some (.int v2), some (.int v3), some (.int (v4 + 1))]) dX6_addNames_80 rfl (by rfl) rfl ?_
          refine r_goto (y := m6_addNames) (tgt := 18) dX6_addNames_83 (by decide) ?_
          exact h
        · have h := h.2 hc6
          refine r_iconst (y := m6_addNames) (v := (-1)) dX6_addNames_78 (by decide) ?_
          refine r_istore_n (y := m6_addNames) (L' := [some (.ref ee0), some (.int v1), some (.int (-1)), some (.int v3), some (.int v4)]) dX6_addNames_79 rfl (Nat.le_of_ble_eq_true rfl) rfl ?_
          refine r_iinc (y := m6_addNames) (v := (v4 + 1)) (L' := [some (.ref ee0), some (.int v1), some (.int (-1)), some (.int v3), some (.int (v4 + 1))]) dX6_addNames_80 rfl (by rfl) rfl ?_
          refine r_goto (y := m6_addNames) (tgt := 18) dX6_addNames_83 (by decide) ?_
          exact h
      · have h := h.2 hc4
        refine r_iload_n (y := m6_addNames) dX6_addNames_38 rfl rfl ?_
        refine r_aload_n (y := m6_addNames) dX6_addNames_39 rfl rfl ?_
        refine g_X6_42 (y := m6_addNames) rfl dX6_addNames_40 hee0 ?_
        refine r_iload (y := m6_addNames) dX6_addNames_43 rfl ?_
        obtain ⟨hb7, h⟩ := h
        refine r_iald (y := m6_addNames) (n := nn0) dX6_addNames_45 (hee0.2 2 (by decide) (by decide)).2 hb7 ?_
        refine r_ishr (y := m6_addNames) dX6_addNames_46 ?_
        refine r_iconst (y := m6_addNames) (v := 1) dX6_addNames_47 (by decide) ?_
        refine r_iand (y := m6_addNames) dX6_addNames_48 ?_
        refine r_if_ne (y := m6_addNames) (tgt := 67) dX6_addNames_49 (by decide) (fun hc8 => ?_) (fun hc8 => ?_)
        · have h := h.1 hc8
          refine r_aload_n (y := m6_addNames) dX6_addNames_67 rfl rfl ?_
          refine g_X6_38 (y := m6_addNames) rfl dX6_addNames_68 hee0 ?_
          refine r_iload (y := m6_addNames) dX6_addNames_71 rfl ?_
          obtain ⟨hb9, h⟩ := h
          refine r_iald (y := m6_addNames) (n := nn0) dX6_addNames_73 (hee0.2 1 (by decide) (by decide)).2 hb9 ?_
          refine r_iconst (y := m6_addNames) (v := 1) dX6_addNames_74 (by decide) ?_
          refine r_icmp_eq (y := m6_addNames) (tgt := 80) dX6_addNames_75 (by decide) (fun hc10 => ?_) (fun hc10 => ?_)
          · have h := h.1 hc10
            refine r_iinc (y := m6_addNames) (v := (v4 + 1)) (L' := [some (.ref ee0), some (.int v1), some (.int v2), some (.int v3), some (.int (v4 + 1))]) dX6_addNames_80 rfl (by rfl) rfl ?_
            refine r_goto (y := m6_addNames) (tgt := 18) dX6_addNames_83 (by decide) ?_
            exact h
          · have h := h.2 hc10
            refine r_iconst (y := m6_addNames) (v := (-1)) dX6_addNames_78 (by decide) ?_
            refine r_istore_n (y := m6_addNames) (L' := [some (.ref ee0), some (.int v1), some (.int (-1)), some (.int v3), some (.int v4)]) dX6_addNames_79 rfl (Nat.le_of_ble_eq_true rfl) rfl ?_
            refine r_iinc (y := m6_addNames) (v := (v4 + 1)) (L' := [some (.ref ee0), some (.int v1), some (.int (-1)), some (.int v3), some (.int (v4 + 1))]) dX6_addNames_80 rfl (by rfl) rfl ?_
            refine r_goto (y := m6_addNames) (tgt := 18) dX6_addNames_83 (by decide) ?_
            exact h
        · have h := h.2 hc8
          refine r_iload_n (y := m6_addNames) dX6_addNames_52 rfl rfl ?_
          refine r_iconst (y := m6_addNames) (v := 1) dX6_addNames_53 (by decide) ?_
          refine r_aload_n (y := m6_addNames) dX6_addNames_54 rfl rfl ?_
          refine g_X6_42 (y := m6_addNames) rfl dX6_addNames_55 hee0 ?_
          refine r_iload (y := m6_addNames) dX6_addNames_58 rfl ?_
          obtain ⟨hb11, h⟩ := h
          refine r_iald (y := m6_addNames) (n := nn0) dX6_addNames_60 (hee0.2 2 (by decide) (by decide)).2 hb11 ?_
          refine r_ishl (y := m6_addNames) dX6_addNames_61 ?_
          refine r_ior (y := m6_addNames) dX6_addNames_62 ?_
          refine r_istore_n (y := m6_addNames) (L' := [some (.ref ee0), some (.int v1), some (.int (v2 ||| (1 <<< ((mI m (ee0 + 2) (Int32.toNatClampNeg v4)) &&& 31)))), some (.int v3), some (.int v4)]) dX6_addNames_63 rfl (Nat.le_of_ble_eq_true rfl) rfl ?_
          refine r_goto (y := m6_addNames) (tgt := 80) dX6_addNames_64 (by decide) ?_
          refine r_iinc (y := m6_addNames) (v := (v4 + 1)) (L' := [some (.ref ee0), some (.int v1), some (.int (v2 ||| (1 <<< ((mI m (ee0 + 2) (Int32.toNatClampNeg v4)) &&& 31)))), some (.int v3), some (.int (v4 + 1))]) dX6_addNames_80 rfl (by rfl) rfl ?_
          refine r_goto (y := m6_addNames) (tgt := 18) dX6_addNames_83 (by decide) ?_
          exact h
set_option maxHeartbeats 4000000 in
set_option maxRecDepth 100000 in
theorem w6_meets {m : Mm} {K : Option Value ⊕ String → Mm → Prop} (hm : St m) {r : Nat} {e0 : Nat} (hr : isRul m r) (he0 : isRul m e0) (h : ((mR m r 0 = none → ((mR m r 1 = none → K (.inl (some (.int 1))) m) ∧ (∀ q3 : Nat, mR m r 1 = some q3 → ((mR m e0 1 = none → K (.inl (some (.int 1))) m) ∧ (∀ q5 : Nat, mR m e0 1 = some q5 → ∃ n12 : Nat, isExp m q3 n12 ∧ C m0_meets [(.ref q3), (.ref q5)] m (fun o m13 => ∃ x15 : Int32, o = .inl (some (.int x15)) ∧ St m13 ∧ ((x15 = 0 → K (.inl (some (.int 0))) m13) ∧ (¬ x15 = 0 → K (.inl (some (.int 1))) m13)))))))) ∧ (∀ q1 : Nat, mR m r 0 = some q1 → ((mR m e0 0 = none → ((mR m r 1 = none → K (.inl (some (.int 1))) m) ∧ (∀ q19 : Nat, mR m r 1 = some q19 → ((mR m e0 1 = none → K (.inl (some (.int 1))) m) ∧ (∀ q21 : Nat, mR m e0 1 = some q21 → ∃ n28 : Nat, isExp m q19 n28 ∧ C m0_meets [(.ref q19), (.ref q21)] m (fun o m29 => ∃ x31 : Int32, o = .inl (some (.int x31)) ∧ St m29 ∧ ((x31 = 0 → K (.inl (some (.int 0))) m29) ∧ (¬ x31 = 0 → K (.inl (some (.int 1))) m29)))))))) ∧ (∀ q17 : Nat, mR m e0 0 = some q17 → ∃ n38 : Nat, isExp m q1 n38 ∧ C m0_meets [(.ref q1), (.ref q17)] m (fun o m39 => ∃ x41 : Int32, o = .inl (some (.int x41)) ∧ St m39 ∧ ((x41 = 0 → K (.inl (some (.int 0))) m39) ∧ (¬ x41 = 0 → isRul m39 r ∧ ((mR m39 r 1 = none → K (.inl (some (.int 1))) m39) ∧ (∀ q44 : Nat, mR m39 r 1 = some q44 → isRul m39 e0 ∧ ((mR m39 e0 1 = none → K (.inl (some (.int 1))) m39) ∧ (∀ q47 : Nat, mR m39 e0 1 = some q47 → ∃ n54 : Nat, isExp m39 q44 n54 ∧ C m0_meets [(.ref q44), (.ref q47)] m39 (fun o m55 => ∃ x57 : Int32, o = .inl (some (.int x57)) ∧ St m55 ∧ ((x57 = 0 → K (.inl (some (.int 0))) m55) ∧ (¬ x57 = 0 → K (.inl (some (.int 1))) m55))))))))))))))) : V m6_meets 0 [some (.ref r), some (.ref e0)] [] m K := by
  refine r_aload_n (y := m6_meets) dX6_meets_0 rfl rfl ?_
  rcases hq2 : mR m r 0 with _ | q1
  · have h := h.1 hq2
    refine g_X6_9 (y := m6_meets) rfl dX6_meets_1 hr (q := none) hq2 ?_
    refine r_ifnullN (y := m6_meets) (tgt := 28) dX6_meets_4 (by decide) ?_
    refine r_aload_n (y := m6_meets) dX6_meets_28 rfl rfl ?_
    rcases hq4 : mR m r 1 with _ | q3
    · have h := h.1 hq4
      refine g_X6_15 (y := m6_meets) rfl dX6_meets_29 hr (q := none) hq4 ?_
      refine r_ifnullN (y := m6_meets) (tgt := 56) dX6_meets_32 (by decide) ?_
      refine r_iconst (y := m6_meets) (v := 1) dX6_meets_56 (by decide) ?_
      refine r_goto (y := m6_meets) (tgt := 61) dX6_meets_57 (by decide) ?_
      exact r_iret (y := m6_meets) (ty := .boolean) dX6_meets_61 rfl (by decide) h
    · have h := h.2 q3 hq4
      refine g_X6_15 (y := m6_meets) rfl dX6_meets_29 hr (q := some q3) hq4 ?_
      refine r_ifnull (y := m6_meets) dX6_meets_32 ?_
      refine r_aload_n (y := m6_meets) dX6_meets_35 rfl rfl ?_
      rcases hq6 : mR m e0 1 with _ | q5
      · have h := h.1 hq6
        refine g_X6_15 (y := m6_meets) rfl dX6_meets_36 he0 (q := none) hq6 ?_
        refine r_ifnullN (y := m6_meets) (tgt := 56) dX6_meets_39 (by decide) ?_
        refine r_iconst (y := m6_meets) (v := 1) dX6_meets_56 (by decide) ?_
        refine r_goto (y := m6_meets) (tgt := 61) dX6_meets_57 (by decide) ?_
        exact r_iret (y := m6_meets) (ty := .boolean) dX6_meets_61 rfl (by decide) h
      · have h := h.2 q5 hq6
        refine g_X6_15 (y := m6_meets) rfl dX6_meets_36 he0 (q := some q5) hq6 ?_
        refine r_ifnull (y := m6_meets) dX6_meets_39 ?_
        refine r_aload_n (y := m6_meets) dX6_meets_42 rfl rfl ?_
        refine g_X6_15 (y := m6_meets) rfl dX6_meets_43 hr (q := some q3) hq4 ?_
        refine r_aload_n (y := m6_meets) dX6_meets_46 rfl rfl ?_
        refine g_X6_15 (y := m6_meets) rfl dX6_meets_47 he0 (q := some q5) hq6 ?_
        obtain ⟨n12, hx11, h⟩ := h
        refine r_callVN (y := m6_meets) (As := [(.ref q5)]) (b := q3) (ci := 0) dX6_meets_50 rfl k0_meets lm_X6_45 rfl ⟨by decide, by decide⟩ (congrArg Prod.fst hx11.1) (by decide) rfl (Nat.le_of_ble_eq_true rfl) (C.mono h ?_)
        rintro _ m13 ⟨x15, rfl, hm14, h⟩
        refine ⟨_, rfl, ?_⟩
        refine r_if_eq (y := m6_meets) (tgt := 60) dX6_meets_53 (by decide) (fun hc16 => ?_) (fun hc16 => ?_)
        · have h := h.1 hc16
          refine r_iconst (y := m6_meets) (v := 0) dX6_meets_60 (by decide) ?_
          exact r_iret (y := m6_meets) (ty := .boolean) dX6_meets_61 rfl (by decide) h
        · have h := h.2 hc16
          refine r_iconst (y := m6_meets) (v := 1) dX6_meets_56 (by decide) ?_
          refine r_goto (y := m6_meets) (tgt := 61) dX6_meets_57 (by decide) ?_
          exact r_iret (y := m6_meets) (ty := .boolean) dX6_meets_61 rfl (by decide) h
  · have h := h.2 q1 hq2
    refine g_X6_9 (y := m6_meets) rfl dX6_meets_1 hr (q := some q1) hq2 ?_
    refine r_ifnull (y := m6_meets) dX6_meets_4 ?_
    refine r_aload_n (y := m6_meets) dX6_meets_7 rfl rfl ?_
    rcases hq18 : mR m e0 0 with _ | q17
    · have h := h.1 hq18
      refine g_X6_9 (y := m6_meets) rfl dX6_meets_8 he0 (q := none) hq18 ?_
      refine r_ifnullN (y := m6_meets) (tgt := 28) dX6_meets_11 (by decide) ?_
      refine r_aload_n (y := m6_meets) dX6_meets_28 rfl rfl ?_
      rcases hq20 : mR m r 1 with _ | q19
      · have h := h.1 hq20
        refine g_X6_15 (y := m6_meets) rfl dX6_meets_29 hr (q := none) hq20 ?_
        refine r_ifnullN (y := m6_meets) (tgt := 56) dX6_meets_32 (by decide) ?_
        refine r_iconst (y := m6_meets) (v := 1) dX6_meets_56 (by decide) ?_
        refine r_goto (y := m6_meets) (tgt := 61) dX6_meets_57 (by decide) ?_
        exact r_iret (y := m6_meets) (ty := .boolean) dX6_meets_61 rfl (by decide) h
      · have h := h.2 q19 hq20
        refine g_X6_15 (y := m6_meets) rfl dX6_meets_29 hr (q := some q19) hq20 ?_
        refine r_ifnull (y := m6_meets) dX6_meets_32 ?_
        refine r_aload_n (y := m6_meets) dX6_meets_35 rfl rfl ?_
        rcases hq22 : mR m e0 1 with _ | q21
        · have h := h.1 hq22
          refine g_X6_15 (y := m6_meets) rfl dX6_meets_36 he0 (q := none) hq22 ?_
          refine r_ifnullN (y := m6_meets) (tgt := 56) dX6_meets_39 (by decide) ?_
          refine r_iconst (y := m6_meets) (v := 1) dX6_meets_56 (by decide) ?_
          refine r_goto (y := m6_meets) (tgt := 61) dX6_meets_57 (by decide) ?_
          exact r_iret (y := m6_meets) (ty := .boolean) dX6_meets_61 rfl (by decide) h
        · have h := h.2 q21 hq22
          refine g_X6_15 (y := m6_meets) rfl dX6_meets_36 he0 (q := some q21) hq22 ?_
          refine r_ifnull (y := m6_meets) dX6_meets_39 ?_
          refine r_aload_n (y := m6_meets) dX6_meets_42 rfl rfl ?_
          refine g_X6_15 (y := m6_meets) rfl dX6_meets_43 hr (q := some q19) hq20 ?_
          refine r_aload_n (y := m6_meets) dX6_meets_46 rfl rfl ?_
          refine g_X6_15 (y := m6_meets) rfl dX6_meets_47 he0 (q := some q21) hq22 ?_
          obtain ⟨n28, hx27, h⟩ := h
          refine r_callVN (y := m6_meets) (As := [(.ref q21)]) (b := q19) (ci := 0) dX6_meets_50 rfl k0_meets lm_X6_45 rfl ⟨by decide, by decide⟩ (congrArg Prod.fst hx27.1) (by decide) rfl (Nat.le_of_ble_eq_true rfl) (C.mono h ?_)
          rintro _ m29 ⟨x31, rfl, hm30, h⟩
          refine ⟨_, rfl, ?_⟩
          refine r_if_eq (y := m6_meets) (tgt := 60) dX6_meets_53 (by decide) (fun hc32 => ?_) (fun hc32 => ?_)
          · have h := h.1 hc32
            refine r_iconst (y := m6_meets) (v := 0) dX6_meets_60 (by decide) ?_
            exact r_iret (y := m6_meets) (ty := .boolean) dX6_meets_61 rfl (by decide) h
          · have h := h.2 hc32
            refine r_iconst (y := m6_meets) (v := 1) dX6_meets_56 (by decide) ?_
            refine r_goto (y := m6_meets) (tgt := 61) dX6_meets_57 (by decide) ?_
            exact r_iret (y := m6_meets) (ty := .boolean) dX6_meets_61 rfl (by decide) h
    · have h := h.2 q17 hq18
      refine g_X6_9 (y := m6_meets) rfl dX6_meets_8 he0 (q := some q17) hq18 ?_
      refine r_ifnull (y := m6_meets) dX6_meets_11 ?_
      refine r_aload_n (y := m6_meets) dX6_meets_14 rfl rfl ?_
      refine g_X6_9 (y := m6_meets) rfl dX6_meets_15 hr (q := some q1) hq2 ?_
      refine r_aload_n (y := m6_meets) dX6_meets_18 rfl rfl ?_
      refine g_X6_9 (y := m6_meets) rfl dX6_meets_19 he0 (q := some q17) hq18 ?_
      obtain ⟨n38, hx37, h⟩ := h
      refine r_callVN (y := m6_meets) (As := [(.ref q17)]) (b := q1) (ci := 0) dX6_meets_22 rfl k0_meets lm_X6_45 rfl ⟨by decide, by decide⟩ (congrArg Prod.fst hx37.1) (by decide) rfl (Nat.le_of_ble_eq_true rfl) (C.mono h ?_)
      rintro _ m39 ⟨x41, rfl, hm40, h⟩
      refine ⟨_, rfl, ?_⟩
      refine r_if_eq (y := m6_meets) (tgt := 60) dX6_meets_25 (by decide) (fun hc42 => ?_) (fun hc42 => ?_)
      · have h := h.1 hc42
        refine r_iconst (y := m6_meets) (v := 0) dX6_meets_60 (by decide) ?_
        exact r_iret (y := m6_meets) (ty := .boolean) dX6_meets_61 rfl (by decide) h
      · have h := h.2 hc42
        refine r_aload_n (y := m6_meets) dX6_meets_28 rfl rfl ?_
        obtain ⟨hx43, h⟩ := h
        rcases hq45 : mR m39 r 1 with _ | q44
        · have h := h.1 hq45
          refine g_X6_15 (y := m6_meets) rfl dX6_meets_29 hx43 (q := none) hq45 ?_
          refine r_ifnullN (y := m6_meets) (tgt := 56) dX6_meets_32 (by decide) ?_
          refine r_iconst (y := m6_meets) (v := 1) dX6_meets_56 (by decide) ?_
          refine r_goto (y := m6_meets) (tgt := 61) dX6_meets_57 (by decide) ?_
          exact r_iret (y := m6_meets) (ty := .boolean) dX6_meets_61 rfl (by decide) h
        · have h := h.2 q44 hq45
          refine g_X6_15 (y := m6_meets) rfl dX6_meets_29 hx43 (q := some q44) hq45 ?_
          refine r_ifnull (y := m6_meets) dX6_meets_32 ?_
          refine r_aload_n (y := m6_meets) dX6_meets_35 rfl rfl ?_
          obtain ⟨hx46, h⟩ := h
          rcases hq48 : mR m39 e0 1 with _ | q47
          · have h := h.1 hq48
            refine g_X6_15 (y := m6_meets) rfl dX6_meets_36 hx46 (q := none) hq48 ?_
            refine r_ifnullN (y := m6_meets) (tgt := 56) dX6_meets_39 (by decide) ?_
            refine r_iconst (y := m6_meets) (v := 1) dX6_meets_56 (by decide) ?_
            refine r_goto (y := m6_meets) (tgt := 61) dX6_meets_57 (by decide) ?_
            exact r_iret (y := m6_meets) (ty := .boolean) dX6_meets_61 rfl (by decide) h
          · have h := h.2 q47 hq48
            refine g_X6_15 (y := m6_meets) rfl dX6_meets_36 hx46 (q := some q47) hq48 ?_
            refine r_ifnull (y := m6_meets) dX6_meets_39 ?_
            refine r_aload_n (y := m6_meets) dX6_meets_42 rfl rfl ?_
            refine g_X6_15 (y := m6_meets) rfl dX6_meets_43 hx43 (q := some q44) hq45 ?_
            refine r_aload_n (y := m6_meets) dX6_meets_46 rfl rfl ?_
            refine g_X6_15 (y := m6_meets) rfl dX6_meets_47 hx46 (q := some q47) hq48 ?_
            obtain ⟨n54, hx53, h⟩ := h
            refine r_callVN (y := m6_meets) (As := [(.ref q47)]) (b := q44) (ci := 0) dX6_meets_50 rfl k0_meets lm_X6_45 rfl ⟨by decide, by decide⟩ (congrArg Prod.fst hx53.1) (by decide) rfl (Nat.le_of_ble_eq_true rfl) (C.mono h ?_)
            rintro _ m55 ⟨x57, rfl, hm56, h⟩
            refine ⟨_, rfl, ?_⟩
            refine r_if_eq (y := m6_meets) (tgt := 60) dX6_meets_53 (by decide) (fun hc58 => ?_) (fun hc58 => ?_)
            · have h := h.1 hc58
              refine r_iconst (y := m6_meets) (v := 0) dX6_meets_60 (by decide) ?_
              exact r_iret (y := m6_meets) (ty := .boolean) dX6_meets_61 rfl (by decide) h
            · have h := h.2 hc58
              refine r_iconst (y := m6_meets) (v := 1) dX6_meets_56 (by decide) ?_
              refine r_goto (y := m6_meets) (tgt := 61) dX6_meets_57 (by decide) ?_
              exact r_iret (y := m6_meets) (ty := .boolean) dX6_meets_61 rfl (by decide) h
