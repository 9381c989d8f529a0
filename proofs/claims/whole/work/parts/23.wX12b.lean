/-! written by gen/drive.py -/
set_option maxHeartbeats 4000000 in
set_option maxRecDepth 100000 in
theorem w12_patternNames_17 {m : Mm} {K : Option Value ⊕ String → Mm → Prop} (hm : St m) {v1 : Int32} {v2 : Int32} {v3 : Int32} {v4 : Int32} {v5 : Int32}  (h : vp_in v1 80 ∧ (((mI m 671 (Int32.toNatClampNeg v1)) ≤ v5 → V m12_patternNames 101 [some (.ref 668), some (.int v1), some (.int v2), some (.int v3), some (.int v4), some (.int v5), none] [] m K) ∧ (¬ (mI m 671 (Int32.toNatClampNeg v1)) ≤ v5 → ((v4 = 0 → V m12_patternNames 101 [some (.ref 668), some (.int v1), some (.int v2), some (.int v3), some (.int v4), some (.int v5), none] [] m K) ∧ (¬ v4 = 0 → vp_in ((12 * v1) + v5) 960 ∧ ((20 ≤ (mI m 672 (Int32.toNatClampNeg ((12 * v1) + v5))) → V m12_patternNames 74 [some (.ref 668), some (.int v1), some (.int v2), some (.int v3), some (.int v4), some (.int v5), some (.int (mI m 672 (Int32.toNatClampNeg ((12 * v1) + v5))))] [] m K) ∧ (¬ 20 ≤ (mI m 672 (Int32.toNatClampNeg ((12 * v1) + v5))) → ((10 ≤ (mI m 672 (Int32.toNatClampNeg ((12 * v1) + v5))) → V m12_patternNames 70 [some (.ref 668), some (.int v1), some (.int v2), some (.int v3), some (.int v4), some (.int v5), some (.int (mI m 672 (Int32.toNatClampNeg ((12 * v1) + v5))))] [] m K) ∧ (¬ 10 ≤ (mI m 672 (Int32.toNatClampNeg ((12 * v1) + v5))) → ((¬ ((v3 >>> ((mI m 672 (Int32.toNatClampNeg ((12 * v1) + v5))) &&& 31)) &&& 1) = 0 → V m12_patternNames 74 [some (.ref 668), some (.int v1), some (.int v2), some (.int v3), some (.int v4), some (.int v5), some (.int (mI m 672 (Int32.toNatClampNeg ((12 * v1) + v5))))] [] m K) ∧ (((v3 >>> ((mI m 672 (Int32.toNatClampNeg ((12 * v1) + v5))) &&& 31)) &&& 1) = 0 → V m12_patternNames 70 [some (.ref 668), some (.int v1), some (.int v2), some (.int v3), some (.int v4), some (.int v5), some (.int (mI m 672 (Int32.toNatClampNeg ((12 * v1) + v5))))] [] m K))))))))))) : V m12_patternNames 17 [some (.ref 668), some (.int v1), some (.int v2), some (.int v3), some (.int v4), some (.int v5), none] [] m K := by
  refine r_iload (y := m12_patternNames) dX12_patternNames_17 rfl ?_
  refine r_aload_n (y := m12_patternNames) dX12_patternNames_19 rfl rfl ?_
  refine g_X12_17 (y := m12_patternNames) rfl dX12_patternNames_20 hm ?_
  refine r_iload_n (y := m12_patternNames) dX12_patternNames_23 rfl rfl ?_
  obtain ⟨hb1, h⟩ := h
  refine r_iald (y := m12_patternNames) (n := 80) dX12_patternNames_24 (sa_671 hm) hb1 ?_
  refine r_icmp_ge (y := m12_patternNames) (tgt := 101) dX12_patternNames_25 (by decide) (fun hc2 => ?_) (fun hc2 => ?_)
  · have h := h.1 hc2
    exact h
  · have h := h.2 hc2
    refine r_iload (y := m12_patternNames) dX12_patternNames_28 rfl ?_
    refine r_if_eq (y := m12_patternNames) (tgt := 101) dX12_patternNames_30 (by decide) (fun hc3 => ?_) (fun hc3 => ?_)
    · have h := h.1 hc3
      exact h
    · have h := h.2 hc3
      refine r_aload_n (y := m12_patternNames) dX12_patternNames_33 rfl rfl ?_
      refine g_X12_20 (y := m12_patternNames) rfl dX12_patternNames_34 hm ?_
      refine r_bipush (y := m12_patternNames) (v := 12) dX12_patternNames_37 (by decide) ?_
      refine r_iload_n (y := m12_patternNames) dX12_patternNames_39 rfl rfl ?_
      refine r_imul (y := m12_patternNames) dX12_patternNames_40 ?_
      refine r_iload (y := m12_patternNames) dX12_patternNames_41 rfl ?_
      refine r_iadd (y := m12_patternNames) dX12_patternNames_43 ?_
      obtain ⟨hb4, h⟩ := h
      refine r_iald (y := m12_patternNames) (n := 960) dX12_patternNames_44 (sa_672 hm) hb4 ?_
      refine r_istore (y := m12_patternNames) (L' := [some (.ref 668), some (.int v1), some (.int v2), some (.int v3), some (.int v4), some (.int v5), some (.int (mI m 672 (Int32.toNatClampNeg ((12 * v1) + v5))))]) dX12_patternNames_45 (Nat.le_of_ble_eq_true rfl) rfl ?_
      refine r_iload (y := m12_patternNames) dX12_patternNames_47 rfl ?_
      refine r_bipush (y := m12_patternNames) (v := 20) dX12_patternNames_49 (by decide) ?_
      refine r_icmp_ge (y := m12_patternNames) (tgt := 74) dX12_patternNames_51 (by decide) (fun hc5 => ?_) (fun hc5 => ?_)
      · have h := h.1 hc5
        exact h
      · have h := h.2 hc5
        refine r_iload (y := m12_patternNames) dX12_patternNames_54 rfl ?_
        refine r_bipush (y := m12_patternNames) (v := 10) dX12_patternNames_56 (by decide) ?_
        refine r_icmp_ge (y := m12_patternNames) (tgt := 70) dX12_patternNames_58 (by decide) (fun hc6 => ?_) (fun hc6 => ?_)
        · have h := h.1 hc6
          exact h
        · have h := h.2 hc6
          refine r_iload_n (y := m12_patternNames) dX12_patternNames_61 rfl rfl ?_
          refine r_iload (y := m12_patternNames) dX12_patternNames_62 rfl ?_
          refine r_ishr (y := m12_patternNames) dX12_patternNames_64 ?_
          refine r_iconst (y := m12_patternNames) (v := 1) dX12_patternNames_65 (by decide) ?_
          refine r_iand (y := m12_patternNames) dX12_patternNames_66 ?_
          refine r_if_ne (y := m12_patternNames) (tgt := 74) dX12_patternNames_67 (by decide) (fun hc7 => ?_) (fun hc7 => ?_)
          · have h := h.1 hc7
            exact h
          · have h := h.2 hc7
            exact h
set_option maxHeartbeats 4000000 in
set_option maxRecDepth 100000 in
theorem w12_patternNames_101 {m : Mm} {K : Option Value ⊕ String → Mm → Prop} (hm : St m) {v1 : Int32} {v2 : Int32} {v3 : Int32} {v4 : Int32} {v5 : Int32}  (h : ((v4 = 0 → K (.inl (some (.int (-1)))) m) ∧ (¬ v4 = 0 → K (.inl (some (.int v3))) m))) : V m12_patternNames 101 [some (.ref 668), some (.int v1), some (.int v2), some (.int v3), some (.int v4), some (.int v5), none] [] m K := by
  refine r_iload (y := m12_patternNames) dX12_patternNames_101 rfl ?_
  refine r_if_eq (y := m12_patternNames) (tgt := 110) dX12_patternNames_103 (by decide) (fun hc1 => ?_) (fun hc1 => ?_)
  · have h := h.1 hc1
    refine r_iconst (y := m12_patternNames) (v := (-1)) dX12_patternNames_110 (by decide) ?_
    exact r_iret (y := m12_patternNames) dX12_patternNames_111 rfl rfl h
  · have h := h.2 hc1
    refine r_iload_n (y := m12_patternNames) dX12_patternNames_106 rfl rfl ?_
    refine r_goto (y := m12_patternNames) (tgt := 111) dX12_patternNames_107 (by decide) ?_
    exact r_iret (y := m12_patternNames) dX12_patternNames_111 rfl rfl h
set_option maxHeartbeats 4000000 in
set_option maxRecDepth 100000 in
theorem w12_patternNames_74 {m : Mm} {K : Option Value ⊕ String → Mm → Prop} (hm : St m) {v1 : Int32} {v2 : Int32} {v3 : Int32} {v4 : Int32} {v5 : Int32} {v6 : Int32}  (h : ((10 ≤ v6 → V m12_patternNames 17 [some (.ref 668), some (.int v1), some (.int v2), some (.int (v3 ||| 0)), some (.int 0), some (.int (v5 + 1)), some (.int v6)] [] m K) ∧ (¬ 10 ≤ v6 → V m12_patternNames 17 [some (.ref 668), some (.int v1), some (.int v2), some (.int (v3 ||| (1 <<< (v6 &&& 31)))), some (.int 0), some (.int (v5 + 1)), some (.int v6)] [] m K))) : V m12_patternNames 74 [some (.ref 668), some (.int v1), some (.int v2), some (.int v3), some (.int v4), some (.int v5), some (.int v6)] [] m K := by
  refine r_iconst (y := m12_patternNames) (v := 0) dX12_patternNames_74 (by decide) ?_
  refine r_istore (y := m12_patternNames) (L' := [some (.ref 668), some (.int v1), some (.int v2), some (.int v3), some (.int 0), some (.int v5), some (.int v6)]) dX12_patternNames_75 (Nat.le_of_ble_eq_true rfl) rfl ?_
  refine r_iload_n (y := m12_patternNames) dX12_patternNames_77 rfl rfl ?_
  refine r_iload (y := m12_patternNames) dX12_patternNames_78 rfl ?_
  refine r_bipush (y := m12_patternNames) (v := 10) dX12_patternNames_80 (by decide) ?_
  refine r_icmp_ge (y := m12_patternNames) (tgt := 92) dX12_patternNames_82 (by decide) (fun hc1 => ?_) (fun hc1 => ?_)
  · have h := h.1 hc1
    refine r_iconst (y := m12_patternNames) (v := 0) dX12_patternNames_92 (by decide) ?_
    refine r_ior (y := m12_patternNames) dX12_patternNames_93 ?_
    refine r_istore_n (y := m12_patternNames) (L' := [some (.ref 668), some (.int v1), some (.int v2), some (.int (v3 ||| 0)), some (.int 0), some (.int v5), some (.int v6)]) dX12_patternNames_94 rfl (Nat.le_of_ble_eq_true rfl) rfl ?_
    refine r_iinc (y := m12_patternNames) (v := (v5 + 1)) (L' := [some (.ref 668), some (.int v1), some (.int v2), some (.int (v3 ||| 0)), some (.int 0), some (.int (v5 + 1)), some (.int v6)]) dX12_patternNames_95 rfl (by rfl) rfl ?_
    refine r_goto (y := m12_patternNames) (tgt := 17) dX12_patternNames_98 (by decide) ?_
    exact h
  · have h := h.2 hc1
    refine r_iconst (y := m12_patternNames) (v := 1) dX12_patternNames_85 (by decide) ?_
    refine r_iload (y := m12_patternNames) dX12_patternNames_86 rfl ?_
    refine r_ishl (y := m12_patternNames) dX12_patternNames_88 ?_
    refine r_goto (y := m12_patternNames) (tgt := 93) dX12_patternNames_89 (by decide) ?_
    refine r_ior (y := m12_patternNames) dX12_patternNames_93 ?_
    refine r_istore_n (y := m12_patternNames) (L' := [some (.ref 668), some (.int v1), some (.int v2), some (.int (v3 ||| (1 <<< (v6 &&& 31)))), some (.int 0), some (.int v5), some (.int v6)]) dX12_patternNames_94 rfl (Nat.le_of_ble_eq_true rfl) rfl ?_
    refine r_iinc (y := m12_patternNames) (v := (v5 + 1)) (L' := [some (.ref 668), some (.int v1), some (.int v2), some (.int (v3 ||| (1 <<< (v6 &&& 31)))), some (.int 0), some (.int (v5 + 1)), some (.int v6)]) dX12_patternNames_95 rfl (by rfl) rfl ?_
    refine r_goto (y := m12_patternNames) (tgt := 17) dX12_patternNames_98 (by decide) ?_
    exact h
set_option maxHeartbeats 4000000 in
set_option maxRecDepth 100000 in
theorem w12_patternNames_70 {m : Mm} {K : Option Value ⊕ String → Mm → Prop} (hm : St m) {v1 : Int32} {v2 : Int32} {v3 : Int32} {v4 : Int32} {v5 : Int32} {v6 : Int32}  (h : ((10 ≤ v6 → V m12_patternNames 17 [some (.ref 668), some (.int v1), some (.int v2), some (.int (v3 ||| 0)), some (.int 1), some (.int (v5 + 1)), some (.int v6)] [] m K) ∧ (¬ 10 ≤ v6 → V m12_patternNames 17 [some (.ref 668), some (.int v1), some (.int v2), some (.int (v3 ||| (1 <<< (v6 &&& 31)))), some (.int 1), some (.int (v5 + 1)), some (.int v6)] [] m K))) : V m12_patternNames 70 [some (.ref 668), some (.int v1), some (.int v2), some (.int v3), some (.int v4), some (.int v5), some (.int v6)] [] m K := by
  refine r_iconst (y := m12_patternNames) (v := 1) dX12_patternNames_70 (by decide) ?_
  refine r_goto (y := m12_patternNames) (tgt := 75) dX12_patternNames_71 (by decide) ?_
  refine r_istore (y := m12_patternNames) (L' := [some (.ref 668), some (.int v1), some (.int v2), some (.int v3), some (.int 1), some (.int v5), some (.int v6)]) dX12_patternNames_75 (Nat.le_of_ble_eq_true rfl) rfl ?_
  refine r_iload_n (y := m12_patternNames) dX12_patternNames_77 rfl rfl ?_
  refine r_iload (y := m12_patternNames) dX12_patternNames_78 rfl ?_
  refine r_bipush (y := m12_patternNames) (v := 10) dX12_patternNames_80 (by decide) ?_
  refine r_icmp_ge (y := m12_patternNames) (tgt := 92) dX12_patternNames_82 (by decide) (fun hc1 => ?_) (fun hc1 => ?_)
  · have h := h.1 hc1
    refine r_iconst (y := m12_patternNames) (v := 0) dX12_patternNames_92 (by decide) ?_
    refine r_ior (y := m12_patternNames) dX12_patternNames_93 ?_
    refine r_istore_n (y := m12_patternNames) (L' := [some (.ref 668), some (.int v1), some (.int v2), some (.int (v3 ||| 0)), some (.int 1), some (.int v5), some (.int v6)]) dX12_patternNames_94 rfl (Nat.le_of_ble_eq_true rfl) rfl ?_
    refine r_iinc (y := m12_patternNames) (v := (v5 + 1)) (L' := [some (.ref 668), some (.int v1), some (.int v2), some (.int (v3 ||| 0)), some (.int 1), some (.int (v5 + 1)), some (.int v6)]) dX12_patternNames_95 rfl (by rfl) rfl ?_
    refine r_goto (y := m12_patternNames) (tgt := 17) dX12_patternNames_98 (by decide) ?_
    exact h
  · have h := h.2 hc1
    refine r_iconst (y := m12_patternNames) (v := 1) dX12_patternNames_85 (by decide) ?_
    refine r_iload (y := m12_patternNames) dX12_patternNames_86 rfl ?_
    refine r_ishl (y := m12_patternNames) dX12_patternNames_88 ?_
    refine r_goto (y := m12_patternNames) (tgt := 93) dX12_patternNames_89 (by decide) ?_
    refine r_ior (y := m12_patternNames) dX12_patternNames_93 ?_
    refine r_istore_n (y := m12_patternNames) (L' := [some (.ref 668), some (.int v1), some (.int v2), some (.int (v3 ||| (1 <<< (v6 &&& 31)))), some (.int 1), some (.int v5), some (.int v6)]) dX12_patternNames_94 rfl (Nat.le_of_ble_eq_true rfl) rfl ?_
    refine r_iinc (y := m12_patternNames) (v := (v5 + 1)) (L' := [some (.ref 668), some (.int v1), some (.int v2), some (.int (v3 ||| (1 <<< (v6 &&& 31)))), some (.int 1), some (.int (v5 + 1)), some (.int v6)]) dX12_patternNames_95 rfl (by rfl) rfl ?_
    refine r_goto (y := m12_patternNames) (tgt := 17) dX12_patternNames_98 (by decide) ?_
    exact h
set_option maxHeartbeats 4000000 in
set_option maxRecDepth 100000 in
theorem w12_copies {m : Mm} {K : Option Value ⊕ String → Mm → Prop} (hm : St m) {a0 : Int32} {a1 : Int32}  (h : V m12_copies 2 [some (.ref 668), some (.int a0), some (.int a1), some (.int 0)] [] m K) : V m12_copies 0 [some (.ref 668), some (.int a0), some (.int a1), none] [] m K := by
  refine r_iconst (y := m12_copies) (v := 0) dX12_copies_0 (by decide) ?_
  refine r_istore_n (y := m12_copies) (L' := [some (.ref 668), some (.int a0), some (.int a1), some (.int 0)]) dX12_copies_1 rfl (Nat.le_of_ble_eq_true rfl) rfl ?_
  exact h
set_option maxHeartbeats 4000000 in
set_option maxRecDepth 100000 in
theorem w12_copies_2 {m : Mm} {K : Option Value ⊕ String → Mm → Prop} (hm : St m) {v1 : Int32} {v2 : Int32} {v3 : Int32}  (h : vp_in v1 80 ∧ (((mI m 671 (Int32.toNatClampNeg v1)) ≤ v3 → K (.inl none) m) ∧ (¬ (mI m 671 (Int32.toNatClampNeg v1)) ≤ v3 → vp_in ((12 * v1) + v3) 960 ∧ vp_in (v2 + v3) 876 ∧ V m12_copies 2 [some (.ref 668), some (.int v1), some (.int v2), some (.int (v3 + 1))] [] (mSetI m 676 (Int32.toNatClampNeg (v2 + v3)) (mI m 672 (Int32.toNatClampNeg ((12 * v1) + v3)))) K))) : V m12_copies 2 [some (.ref 668), some (.int v1), some (.int v2), some (.int v3)] [] m K := by
  refine r_iload_n (y := m12_copies) dX12_copies_2 rfl rfl ?_
  refine r_aload_n (y := m12_copies) dX12_copies_3 rfl rfl ?_
  refine g_X12_17 (y := m12_copies) rfl dX12_copies_4 hm ?_
  refine r_iload_n (y := m12_copies) dX12_copies_7 rfl rfl ?_
  obtain ⟨hb1, h⟩ := h
  refine r_iald (y := m12_copies) (n := 80) dX12_copies_8 (sa_671 hm) hb1 ?_
  refine r_icmp_ge (y := m12_copies) (tgt := 37) dX12_copies_9 (by decide) (fun hc2 => ?_) (fun hc2 => ?_)
  · have h := h.1 hc2
    exact r_ret (y := m12_copies) dX12_copies_37 rfl h
  · have h := h.2 hc2
    refine r_aload_n (y := m12_copies) dX12_copies_12 rfl rfl ?_
    refine g_X12_32 (y := m12_copies) rfl dX12_copies_13 hm ?_
    refine r_iload_n (y := m12_copies) dX12_copies_16 rfl rfl ?_
    refine r_iload_n (y := m12_copies) dX12_copies_17 rfl rfl ?_
    refine r_iadd (y := m12_copies) dX12_copies_18 ?_
    refine r_aload_n (y := m12_copies) dX12_copies_19 rfl rfl ?_
    refine g_X12_20 (y := m12_copies) rfl dX12_copies_20 hm ?_
    refine r_bipush (y := m12_copies) (v := 12) dX12_copies_23 (by decide) ?_
    refine r_iload_n (y := m12_copies) dX12_copies_25 rfl rfl ?_
    refine r_imul (y := m12_copies) dX12_copies_26 ?_
    refine r_iload_n (y := m12_copies) dX12_copies_27 rfl rfl ?_
    refine r_iadd (y := m12_copies) dX12_copies_28 ?_
    obtain ⟨hb3, h⟩ := h
    refine r_iald (y := m12_copies) (n := 960) dX12_copies_29 (sa_672 hm) hb3 ?_
    obtain ⟨hb4, h⟩ := h
    refine r_iast (y := m12_copies) (n := 876) dX12_copies_30 (sa_676 hm) hb4 ?_
    refine r_iinc (y := m12_copies) (v := (v3 + 1)) (L' := [some (.ref 668), some (.int v1), some (.int v2), some (.int (v3 + 1))]) dX12_copies_31 rfl (by rfl) rfl ?_
    refine r_goto (y := m12_copies) (tgt := 2) dX12_copies_34 (by decide) ?_
    exact h
set_option maxHeartbeats 4000000 in
set_option maxRecDepth 100000 in
theorem w12_rule {m : Mm} {K : Option Value ⊕ String → Mm → Prop} (hm : St m) {a0 : Int32} {a1 : Int32} {a2 : Int32} {a3 : Int32}  (h : C m12_isFunction [(.ref 668), (.int a0)] m (fun o m1 => ∃ x3 : Int32, o = .inl (some (.int x3)) ∧ St m1 ∧ ((x3 = 0 → (((1 : Int32) ≤ 0 → vp_in a0 8 ∧ (((mI m1 669 (Int32.toNatClampNeg a0)) ≤ 0 → (((mI m1 669 (Int32.toNatClampNeg a0)) ≤ 1 → ((¬ (0 : Int32) = (-1) → ((¬ (mI m1 668 9) = 24 → (((0 : Int32) ≤ 0 → V m12_rule 135 [some (.ref 668), some (.int a0), some (.int a1), some (.int a2), some (.int a3), some (.int (mI m1 669 (Int32.toNatClampNeg a0))), some (.int 0), some (.int 0)] [] (mSetI (mSetI m1 668 12 1) 668 12 0) K) ∧ (¬ (0 : Int32) ≤ 0 → K (.inl (some (.int 0))) (mSetI (mSetI m1 668 12 1) 668 12 0)))) ∧ ((mI m1 668 9) = 24 → (((3 : Int32) ≤ 0 → V m12_rule 135 [some (.ref 668), some (.int a0), some (.int a1), some (.int a2), some (.int a3), some (.int (mI m1 669 (Int32.toNatClampNeg a0))), some (.int 0), some (.int 0)] [] (mSetI (mSetI m1 668 12 1) 668 12 3) K) ∧ (¬ (3 : Int32) ≤ 0 → K (.inl (some (.int 0))) (mSetI (mSetI m1 668 12 1) 668 12 3)))))) ∧ ((0 : Int32) = (-1) → (((2 : Int32) ≤ 0 → V m12_rule 135 [some (.ref 668), some (.int a0), some (.int a1), some (.int a2), some (.int a3), some (.int (mI m1 669 (Int32.toNatClampNeg a0))), some (.int 0), some (.int 0)] [] (mSetI (mSetI m1 668 12 1) 668 12 2) K) ∧ (¬ (2 : Int32) ≤ 0 → K (.inl (some (.int 0))) (mSetI (mSetI m1 668 12 1) 668 12 2)))))) ∧ (¬ (mI m1 669 (Int32.toNatClampNeg a0)) ≤ 1 → C m12_patternNames [(.ref 668), (.int a2), (.int 0)] (mSetI m1 668 12 1) (fun o m14 => ∃ x16 : Int32, o = .inl (some (.int x16)) ∧ St m14 ∧ ((¬ x16 = (-1) → ((¬ (mI m14 668 9) = 24 → (((0 : Int32) ≤ 0 → V m12_rule 135 [some (.ref 668), some (.int a0), some (.int a1), some (.int a2), some (.int a3), some (.int (mI m1 669 (Int32.toNatClampNeg a0))), some (.int x16), some (.int 0)] [] (mSetI m14 668 12 0) K) ∧ (¬ (0 : Int32) ≤ 0 → K (.inl (some (.int 0))) (mSetI m14 668 12 0)))) ∧ ((mI m14 668 9) = 24 → (((3 : Int32) ≤ 0 → V m12_rule 135 [some (.ref 668), some (.int a0), some (.int a1), some (.int a2), some (.int a3), some (.int (mI m1 669 (Int32.toNatClampNeg a0))), some (.int x16), some (.int 0)] [] (mSetI m14 668 12 3) K) ∧ (¬ (3 : Int32) ≤ 0 → K (.inl (some (.int 0))) (mSetI m14 668 12 3)))))) ∧ (x16 = (-1) → (((2 : Int32) ≤ 0 → V m12_rule 135 [some (.ref 668), some (.int a0), some (.int a1), some (.int a2), some (.int a3), some (.int (mI m1 669 (Int32.toNatClampNeg a0))), some (.int x16), some (.int 0)] [] (mSetI m14 668 12 2) K) ∧ (¬ (2 : Int32) ≤ 0 → K (.inl (some (.int 0))) (mSetI m14 668 12 2))))))))) ∧ (¬ (mI m1 669 (Int32.toNatClampNeg a0)) ≤ 0 → C m12_patternNames [(.ref 668), (.int a1), (.int 0)] (mSetI m1 668 12 1) (fun o m22 => ∃ x24 : Int32, o = .inl (some (.int x24)) ∧ St m22 ∧ (((mI m1 669 (Int32.toNatClampNeg a0)) ≤ 1 → ((¬ x24 = (-1) → ((¬ (mI m22 668 9) = 24 → (((0 : Int32) ≤ 0 → V m12_rule 135 [some (.ref 668), some (.int a0), some (.int a1), some (.int a2), some (.int a3), some (.int (mI m1 669 (Int32.toNatClampNeg a0))), some (.int x24), some (.int 0)] [] (mSetI m22 668 12 0) K) ∧ (¬ (0 : Int32) ≤ 0 → K (.inl (some (.int 0))) (mSetI m22 668 12 0)))) ∧ ((mI m22 668 9) = 24 → (((3 : Int32) ≤ 0 → V m12_rule 135 [some (.ref 668), some (.int a0), some (.int a1), some (.int a2), some (.int a3), some (.int (mI m1 669 (Int32.toNatClampNeg a0))), some (.int x24), some (.int 0)] [] (mSetI m22 668 12 3) K) ∧ (¬ (3 : Int32) ≤ 0 → K (.inl (some (.int 0))) (mSetI m22 668 12 3)))))) ∧ (x24 = (-1) → (((2 : Int32) ≤ 0 → V m12_rule 135 [some (.ref 668), some (.int a0), some (.int a1), some (.int a2), some (.int a3), some (.int (mI m1 669 (Int32.toNatClampNeg a0))), some (.int x24), some (.int 0)] [] (mSetI m22 668 12 2) K) ∧ (¬ (2 : Int32) ≤ 0 → K (.inl (some (.int 0))) (mSetI m22 668 12 2)))))) ∧ (¬ (mI m1 669 (Int32.toNatClampNeg a0)) ≤ 1 → C m12_patternNames [(.ref 668), (.int a2), (.int x24)] m22 (fun o m31 => ∃ x33 : Int32, o = .inl (some (.int x33)) ∧ St m31 ∧ ((¬ x33 = (-1) → ((¬ (mI m31 668 9) = 24 → (((0 : Int32) ≤ 0 → V m12_rule 135 [some (.ref 668), some (.int a0), some (.int a1), some (.int a2), some (.int a3), some (.int (mI m1 669 (Int32.toNatClampNeg a0))), some (.int x33), some (.int 0)] [] (mSetI m31 668 12 0) K) ∧ (¬ (0 : Int32) ≤ 0 → K (.inl (some (.int 0))) (mSetI m31 668 12 0)))) ∧ ((mI m31 668 9) = 24 → (((3 : Int32) ≤ 0 → V m12_rule 135 [some (.ref 668), some (.int a0), some (.int a1), some (.int a2), some (.int a3), some (.int (mI m1 669 (Int32.toNatClampNeg a0))), some (.int x33), some (.int 0)] [] (mSetI m31 668 12 3) K) ∧ (¬ (3 : Int32) ≤ 0 → K (.inl (some (.int 0))) (mSetI m31 668 12 3)))))) ∧ (x33 = (-1) → (((2 : Int32) ≤ 0 → V m12_rule 135 [some (.ref 668), some (.int a0), some (.int a1), some (.int a2), some (.int a3), some (.int (mI m1 669 (Int32.toNatClampNeg a0))), some (.int x33), some (.int 0)] [] (mSetI m31 668 12 2) K) ∧ (¬ (2 : Int32) ≤ 0 → K (.inl (some (.int 0))) (mSetI m31 668 12 2)))))))))))) ∧ (¬ (1 : Int32) ≤ 0 → K (.inl (some (.int 0))) (mSetI m1 668 12 1)))) ∧ (¬ x3 = 0 → vp_in a0 8 ∧ C m12_areParts [(.ref 668), (.int (mI m1 669 (Int32.toNatClampNeg a0))), (.int a1), (.int a2)] m1 (fun o m40 => ∃ x42 : Int32, o = .inl (some (.int x42)) ∧ St m40 ∧ ((x42 = 0 → (((1 : Int32) ≤ 0 → vp_in a0 8 ∧ (((mI m40 669 (Int32.toNatClampNeg a0)) ≤ 0 → (((mI m40 669 (Int32.toNatClampNeg a0)) ≤ 1 → ((¬ (0 : Int32) = (-1) → ((¬ (mI m40 668 9) = 24 → (((0 : Int32) ≤ 0 → V m12_rule 135 [some (.ref 668), some (.int a0), some (.int a1), some (.int a2), some (.int a3), some (.int (mI m40 669 (Int32.toNatClampNeg a0))), some (.int 0), some (.int 0)] [] (mSetI (mSetI m40 668 12 1) 668 12 0) K) ∧ (¬ (0 : Int32) ≤ 0 → K (.inl (some (.int 0))) (mSetI (mSetI m40 668 12 1) 668 12 0)))) ∧ ((mI m40 668 9) = 24 → (((3 : Int32) ≤ 0 → V m12_rule 135 [some (.ref 668), some (.int a0), some (.int a1), some (.int a2), some (.int a3), some (.int (mI m40 669 (Int32.toNatClampNeg a0))), some (.int 0), some (.int 0)] [] (mSetI (mSetI m40 668 12 1) 668 12 3) K) ∧ (¬ (3 : Int32) ≤ 0 → K (.inl (some (.int 0))) (mSetI (mSetI m40 668 12 1) 668 12 3)))))) ∧ ((0 : Int32) = (-1) → (((2 : Int32) ≤ 0 → V m12_rule 135 [some (.ref 668), some (.int a0), some (.int a1), some (.int a2), some (.int a3), some (.int (mI m40 669 (Int32.toNatClampNeg a0))), some (.int 0), some (.int 0)] [] (mSetI (mSetI m40 668 12 1) 668 12 2) K) ∧ (¬ (2 : Int32) ≤ 0 → K (.inl (some (.int 0))) (mSetI (mSetI m40 668 12 1) 668 12 2)))))) ∧ (¬ (mI m40 669 (Int32.toNatClampNeg a0)) ≤ 1 → C m12_patternNames [(.ref 668), (.int a2), (.int 0)] (mSetI m40 668 12 1) (fun o m53 => ∃ x55 : Int32, o = .inl (some (.int x55)) ∧ St m53 ∧ ((¬ x55 = (-1) → ((¬ (mI m53 668 9) = 24 → (((0 : Int32) ≤ 0 → V m12_rule 135 [some (.ref 668), some (.int a0), some (.int a1), some (.int a2), some (.int a3), some (.int (mI m40 669 (Int32.toNatClampNeg a0))), some (.int x55), some (.int 0)] [] (mSetI m53 668 12 0) K) ∧ (¬ (0 : Int32) ≤ 0 → K (.inl (some (.int 0))) (mSetI m53 668 12 0)))) ∧ ((mI m53 668 9) = 24 → (((3 : Int32) ≤ 0 → V m12_rule 135 [some (.ref 668), some (.int a0), some (.int a1), some (.int a2), some (.int a3), some (.int (mI m40 669 (Int32.toNatClampNeg a0))), some (.int x55), some (.int 0)] [] (mSetI m53 668 12 3) K) ∧ (¬ (3 : Int32) ≤ 0 → K (.inl (some (.int 0))) (mSetI m53 668 12 3)))))) ∧ (x55 = (-1) → (((2 : Int32) ≤ 0 → V m12_rule 135 [some (.ref 668), some (.int a0), some (.int a1), some (.int a2), some (.int a3), some (.int (mI m40 669 (Int32.toNatClampNeg a0))), some (.int x55), some (.int 0)] [] (mSetI m53 668 12 2) K) ∧ (¬ (2 : Int32) ≤ 0 → K (.inl (some (.int 0))) (mSetI m53 668 12 2))))))))) ∧ (¬ (mI m40 669 (Int32.toNatClampNeg a0)) ≤ 0 → C m12_patternNames [(.ref 668), (.int a1), (.int 0)] (mSetI m40 668 12 1) (fun o m61 => ∃ x63 : Int32, o = .inl (some (.int x63)) ∧ St m61 ∧ (((mI m40 669 (Int32.toNatClampNeg a0)) ≤ 1 → ((¬ x63 = (-1) → ((¬ (mI m61 668 9) = 24 → (((0 : Int32) ≤ 0 → V m12_rule 135 [some (.ref 668), some (.int a0), some (.int a1), some (.int a2), some (.int a3), some (.int (mI m40 669 (Int32.toNatClampNeg a0))), some (.int x63), some (.int 0)] [] (mSetI m61 668 12 0) K) ∧ (¬ (0 : Int32) ≤ 0 → K (.inl (some (.int 0))) (mSetI m61 668 12 0)))) ∧ ((mI m61 668 9) = 24 → (((3 : Int32) ≤ 0 → V m12_rule 135 [some (.ref 668), some (.int a0), some (.int a1), some (.int a2), some (.int a3), some (.int (mI m40 669 (Int32.toNatClampNeg a0))), some (.int x63), some (.int 0)] [] (mSetI m61 668 12 3) K) ∧ (¬ (3 : Int32) ≤ 0 → K (.inl (some (.int 0))) (mSetI m61 668 12 3)))))) ∧ (x63 = (-1) → (((2 : Int32) ≤ 0 → V m12_rule 135 [some (.ref 668), some (.int a0), some (.int a1), some (.int a2), some (.int a3), some (.int (mI m40 669 (Int32.toNatClampNeg a0))), some (.int x63), some (.int 0)] [] (mSetI m61 668 12 2) K) ∧ (¬ (2 : Int32) ≤ 0 → K (.inl (some (.int 0))) (mSetI m61 668 12 2)))))) ∧ (¬ (mI m40 669 (Int32.toNatClampNeg a0)) ≤ 1 → C m12_patternNames [(.ref 668), (.int a2), (.int x63)] m61 (fun o m70 => ∃ x72 : Int32, o = .inl (some (.int x72)) ∧ St m70 ∧ ((¬ x72 = (-1) → ((¬ (mI m70 668 9) = 24 → (((0 : Int32) ≤ 0 → V m12_rule 135 [some (.ref 668), some (.int a0), some (.int a1), some (.int a2), some (.int a3), some (.int (mI m40 669 (Int32.toNatClampNeg a0))), some (.int x72), some (.int 0)] [] (mSetI m70 668 12 0) K) ∧ (¬ (0 : Int32) ≤ 0 → K (.inl (some (.int 0))) (mSetI m70 668 12 0)))) ∧ ((mI m70 668 9) = 24 → (((3 : Int32) ≤ 0 → V m12_rule 135 [some (.ref 668), some (.int a0), some (.int a1), some (.int a2), some (.int a3), some (.int (mI m40 669 (Int32.toNatClampNeg a0))), some (.int x72), some (.int 0)] [] (mSetI m70 668 12 3) K) ∧ (¬ (3 : Int32) ≤ 0 → K (.inl (some (.int 0))) (mSetI m70 668 12 3)))))) ∧ (x72 = (-1) → (((2 : Int32) ≤ 0 → V m12_rule 135 [some (.ref 668), some (.int a0), some (.int a1), some (.int a2), some (.int a3), some (.int (mI m40 669 (Int32.toNatClampNeg a0))), some (.int x72), some (.int 0)] [] (mSetI m70 668 12 2) K) ∧ (¬ (2 : Int32) ≤ 0 → K (.inl (some (.int 0))) (mSetI m70 668 12 2)))))))))))) ∧ (¬ (1 : Int32) ≤ 0 → K (.inl (some (.int 0))) (mSetI m40 668 12 1)))) ∧ (¬ x42 = 0 → C m12_isNode [(.ref 668), (.int a3)] m40 (fun o m78 => ∃ x80 : Int32, o = .inl (some (.int x80)) ∧ St m78 ∧ ((¬ x80 = 0 → (((0 : Int32) ≤ 0 → vp_in a0 8 ∧ (((mI m78 669 (Int32.toNatClampNeg a0)) ≤ 0 → (((mI m78 669 (Int32.toNatClampNeg a0)) ≤ 1 → ((¬ (0 : Int32) = (-1) → ((¬ (mI m78 668 9) = 24 → (((0 : Int32) ≤ 0 → V m12_rule 135 [some (.ref 668), some (.int a0), some (.int a1), some (.int a2), some (.int a3), some (.int (mI m78 669 (Int32.toNatClampNeg a0))), some (.int 0), some (.int 0)] [] (mSetI (mSetI m78 668 12 0) 668 12 0) K) ∧ (¬ (0 : Int32) ≤ 0 → K (.inl (some (.int 0))) (mSetI (mSetI m78 668 12 0) 668 12 0)))) ∧ ((mI m78 668 9) = 24 → (((3 : Int32) ≤ 0 → V m12_rule 135 [some (.ref 668), some (.int a0), some (.int a1), some (.int a2), some (.int a3), some (.int (mI m78 669 (Int32.toNatClampNeg a0))), some (.int 0), some (.int 0)] [] (mSetI (mSetI m78 668 12 0) 668 12 3) K) ∧ (¬ (3 : Int32) ≤ 0 → K (.inl (some (.int 0))) (mSetI (mSetI m78 668 12 0) 668 12 3)))))) ∧ ((0 : Int32) = (-1) → (((2 : Int32) ≤ 0 → V m12_rule 135 [some (.ref 668), some (.int a0), some (.int a1), some (.int a2), some (.int a3), some (.int (mI m78 669 (Int32.toNatClampNeg a0))), some (.int 0), some (.int 0)] [] (mSetI (mSetI m78 668 12 0) 668 12 2) K) ∧ (¬ (2 : Int32) ≤ 0 → K (.inl (some (.int 0))) (mSetI (mSetI m78 668 12 0) 668 12 2)))))) ∧ (¬ (mI m78 669 (Int32.toNatClampNeg a0)) ≤ 1 → C m12_patternNames [(.ref 668), (.int a2), (.int 0)] (mSetI m78 668 12 0) (fun o m91 => ∃ x93 : Int32, o = .inl (some (.int x93)) ∧ St m91 ∧ ((¬ x93 = (-1) → ((¬ (mI m91 668 9) = 24 → (((0 : Int32) ≤ 0 → V m12_rule 135 [some (.ref 668), some (.int a0), some (.int a1), some (.int a2), some (.int a3), some (.int (mI m78 669 (Int32.toNatClampNeg a0))), some (.int x93), some (.int 0)] [] (mSetI m91 668 12 0) K) ∧ (¬ (0 : Int32) ≤ 0 → K (.inl (some (.int 0))) (mSetI m91 668 12 0)))) ∧ ((mI m91 668 9) = 24 → (((3 : Int32) ≤ 0 → V m12_rule 135 [some (.ref 668), some (.int a0), some (.int a1), some (.int a2), some (.int a3), some (.int (mI m78 669 (Int32.toNatClampNeg a0))), some (.int x93), some (.int 0)] [] (mSetI m91 668 12 3) K) ∧ (¬ (3 : Int32) ≤ 0 → K (.inl (some (.int 0))) (mSetI m91 668 12 3)))))) ∧ (x93 = (-1) → (((2 : Int32) ≤ 0 → V m12_rule 135 [some (.ref 668), some (.int a0), some (.int a1), some (.int a2), some (.int a3), some (.int (mI m78 669 (Int32.toNatClampNeg a0))), some (.int x93), some (.int 0)] [] (mSetI m91 668 12 2) K) ∧ (¬ (2 : Int32) ≤ 0 → K (.inl (some (.int 0))) (mSetI m91 668 12 2))))))))) ∧ (¬ (mI m78 669 (Int32.toNatClampNeg a0)) ≤ 0 → C m12_patternNames [(.ref 668), (.int a1), (.int 0)] (mSetI m78 668 12 0) (fun o m99 => ∃ x101 : Int32, o = .inl (some (.int x101)) ∧ St m99 ∧ (((mI m78 669 (Int32.toNatClampNeg a0)) ≤ 1 → ((¬ x101 = (-1) → ((¬ (mI m99 668 9) = 24 → (((0 : Int32) ≤ 0 → V m12_rule 135 [some (.ref 668), some (.int a0), some (.int a1), some (.int a2), some (.int a3), some (.int (mI m78 669 (Int32.toNatClampNeg a0))), some (.int x101), some (.int 0)] [] (mSetI m99 668 12 0) K) ∧ (¬ (0 : Int32) ≤ 0 → K (.inl (some (.int 0))) (mSetI m99 668 12 0)))) ∧ ((mI m99 668 9) = 24 → (((3 : Int32) ≤ 0 → V m12_rule 135 [some (.ref 668), some (.int a0), some (.int a1), some (.int a2), some (.int a3), some (.int (mI m78 669 (Int32.toNatClampNeg a0))), some (.int x101), some (.int 0)] [] (mSetI m99 668 12 3) K) ∧ (¬ (3 : Int32) ≤ 0 → K (.inl (some (.int 0))) (mSetI m99 668 12 3)))))) ∧ (x101 = (-1) → (((2 : Int32) ≤ 0 → V m12_rule 135 [some (.ref 668), some (.int a0), some (.int a1), some (.int a2), some (.int a3), some (.int (mI m78 669 (Int32.toNatClampNeg a0))), some (.int x101), some (.int 0)] [] (mSetI m99 668 12 2) K) ∧ (¬ (2 : Int32) ≤ 0 → K (.inl (some (.int 0))) (mSetI m99 668 12 2)))))) ∧ (¬ (mI m78 669 (Int32.toNatClampNeg a0)) ≤ 1 → C m12_patternNames [(.ref 668), (.int a2), (.int x101)] m99 (fun o m108 => ∃ x110 : Int32, o = .inl (some (.int x110)) ∧ St m108 ∧ ((¬ x110 = (-1) → ((¬ (mI m108 668 9) = 24 → (((0 : Int32) ≤ 0 → V m12_rule 135 [some (.ref 668), some (.int a0), some (.int a1), some (.int a2), some (.int a3), some (.int (mI m78 669 (Int32.toNatClampNeg a0))), some (.int x110), some (.int 0)] [] (mSetI m108 668 12 0) K) ∧ (¬ (0 : Int32) ≤ 0 → K (.inl (some (.int 0))) (mSetI m108 668 12 0)))) ∧ ((mI m108 668 9) = 24 → (((3 : Int32) ≤ 0 → V m12_rule 135 [some (.ref 668), some (.int a0), some (.int a1), some (.int a2), some (.int a3), some (.int (mI m78 669 (Int32.toNatClampNeg a0))), some (.int x110), some (.int 0)] [] (mSetI m108 668 12 3) K) ∧ (¬ (3 : Int32) ≤ 0 → K (.inl (some (.int 0))) (mSetI m108 668 12 3)))))) ∧ (x110 = (-1) → (((2 : Int32) ≤ 0 → V m12_rule 135 [some (.ref 668), some (.int a0), some (.int a1), some (.int a2), some (.int a3), some (.int (mI m78 669 (Int32.toNatClampNeg a0))), some (.int x110), some (.int 0)] [] (mSetI m108 668 12 2) K) ∧ (¬ (2 : Int32) ≤ 0 → K (.inl (some (.int 0))) (mSetI m108 668 12 2)))))))))))) ∧ (¬ (0 : Int32) ≤ 0 → K (.inl (some (.int 0))) (mSetI m78 668 12 0)))) ∧ (x80 = 0 → (((1 : Int32) ≤ 0 → vp_in a0 8 ∧ (((mI m78 669 (Int32.toNatClampNeg a0)) ≤ 0 → (((mI m78 669 (Int32.toNatClampNeg a0)) ≤ 1 → ((¬ (0 : Int32) = (-1) → ((¬ (mI m78 668 9) = 24 → (((0 : Int32) ≤ 0 → V m12_rule 135 [some (.ref 668), some (.int a0), some (.int a1), some (.int a2), some (.int a3), some (.int (mI m78 669 (Int32.toNatClampNeg a0))), some (.int 0), some (.int 0)] [] (mSetI (mSetI m78 668 12 1) 668 12 0) K) ∧ (¬ (0 : Int32) ≤ 0 → K (.inl (some (.int 0))) (mSetI (mSetI m78 668 12 1) 668 12 0)))) ∧ ((mI m78 668 9) = 24 → (((3 : Int32) ≤ 0 → V m12_rule 135 [some (.ref 668), some (.int a0), some (.int a1), some (.int a2), some (.int a3), some (.int (mI m78 669 (Int32.toNatClampNeg a0))), some (.int 0), some (.int 0)] [] (mSetI (mSetI m78 668 12 1) 668 12 3) K) ∧ (¬ (3 : Int32) ≤ 0 → K (.inl (some (.int 0))) (mSetI (mSetI m78 668 12 1) 668 12 3)))))) ∧ ((0 : Int32) = (-1) → (((2 : Int32) ≤ 0 → V m12_rule 135 [some (.ref 668), some (.int a0), some (.int a1), some (.int a2), some (.int a3), some (.int (mI m78 669 (Int32.toNatClampNeg a0))), some (.int 0), some (.int 0)] [] (mSetI (mSetI m78 668 12 1) 668 12 2) K) ∧ (¬ (2 : Int32) ≤ 0 → K (.inl (some (.int 0))) (mSetI (mSetI m78 668 12 1) 668 12 2)))))) ∧ (¬ (mI m78 669 (Int32.toNatClampNeg a0)) ≤ 1 → C m12_patternNames [(.ref 668), (.int a2), (.int 0)] (mSetI m78 668 12 1) (fun o m125 => ∃ x127 : Int32, o = .inl (some (.int x127)) ∧ St m125 ∧ ((¬ x127 = (-1) → ((¬ (mI m125 668 9) = 24 → (((0 : Int32) ≤ 0 → V m12_rule 135 [some (.ref 668), some (.int a0), some (.int a1), some (.int a2), some (.int a3), some (.int (mI m78 669 (Int32.toNatClampNeg a0))), some (.int x127), some (.int 0)] [] (mSetI m125 668 12 0) K) ∧ (¬ (0 : Int32) ≤ 0 → K (.inl (some (.int 0))) (mSetI m125 668 12 0)))) ∧ ((mI m125 668 9) = 24 → (((3 : Int32) ≤ 0 → V m12_rule 135 [some (.ref 668), some (.int a0), some (.int a1), some (.int a2), some (.int a3), some (.int (mI m78 669 (Int32.toNatClampNeg a0))), some (.int x127), some (.int 0)] [] (mSetI m125 668 12 3) K) ∧ (¬ (3 : Int32) ≤ 0 → K (.inl (some (.int 0))) (mSetI m125 668 12 3)))))) ∧ (x127 = (-1) → (((2 : Int32) ≤ 0 → V m12_rule 135 [some (.ref 668), some (.int a0), some (.int a1), some (.int a2), some (.int a3), some (.int (mI m78 669 (Int32.toNatClampNeg a0))), some (.int x127), some (.int 0)] [] (mSetI m125 668 12 2) K) ∧ (¬ (2 : Int32) ≤ 0 → K (.inl (some (.int 0))) (mSetI m125 668 12 2))))))))) ∧ (¬ (mI m78 669 (Int32.toNatClampNeg a0)) ≤ 0 → C m12_patternNames [(.ref 668), (.int a1), (.int 0)] (mSetI m78 668 12 1) (fun o m133 => ∃ x135 : Int32, o = .inl (some (.int x135)) ∧ St m133 ∧ (((mI m78 669 (Int32.toNatClampNeg a0)) ≤ 1 → ((¬ x135 = (-1) → ((¬ (mI m133 668 9) = 24 → (((0 : Int32) ≤ 0 → V m12_rule 135 [some (.ref 668), some (.int a0), some (.int a1), some (.int a2), some (.int a3), some (.int (mI m78 669 (Int32.toNatClampNeg a0))), some (.int x135), some (.int 0)] [] (mSetI m133 668 12 0) K) ∧ (¬ (0 : Int32) ≤ 0 → K (.inl (some (.int 0))) (mSetI m133 668 12 0)))) ∧ ((mI m133 668 9) = 24 → (((3 : Int32) ≤ 0 → V m12_rule 135 [some (.ref 668), some (.int a0), some (.int a1), some (.int a2), some (.int a3), some (.int (mI m78 669 (Int32.toNatClampNeg a0))), some (.int x135), some (.int 0)] [] (mSetI m133 668 12 3) K) ∧ (¬ (3 : Int32) ≤ 0 → K (.inl (some (.int 0))) (mSetI m133 668 12 3)))))) ∧ (x135 = (-1) → (((2 : Int32) ≤ 0 → V m12_rule 135 [some (.ref 668), some (.int a0), some (.int a1), some (.int a2), some (.int a3), some (.int (mI m78 669 (Int32.toNatClampNeg a0))), some (.int x135), some (.int 0)] [] (mSetI m133 668 12 2) K) ∧ (¬ (2 : Int32) ≤ 0 → K (.inl (some (.int 0))) (mSetI m133 668 12 2)))))) ∧ (¬ (mI m78 669 (Int32.toNatClampNeg a0)) ≤ 1 → C m12_patternNames [(.ref 668), (.int a2), (.int x135)] m133 (fun o m142 => ∃ x144 : Int32, o = .inl (some (.int x144)) ∧ St m142 ∧ ((¬ x144 = (-1) → ((¬ (mI m142 668 9) = 24 → (((0 : Int32) ≤ 0 → V m12_rule 135 [some (.ref 668), some (.int a0), some (.int a1), some (.int a2), some (.int a3), some (.int (mI m78 669 (Int32.toNatClampNeg a0))), some (.int x144), some (.int 0)] [] (mSetI m142 668 12 0) K) ∧ (¬ (0 : Int32) ≤ 0 → K (.inl (some (.int 0))) (mSetI m142 668 12 0)))) ∧ ((mI m142 668 9) = 24 → (((3 : Int32) ≤ 0 → V m12_rule 135 [some (.ref 668), some (.int a0), some (.int a1), some (.int a2), some (.int a3), some (.int (mI m78 669 (Int32.toNatClampNeg a0))), some (.int x144), some (.int 0)] [] (mSetI m142 668 12 3) K) ∧ (¬ (3 : Int32) ≤ 0 → K (.inl (some (.int 0))) (mSetI m142 668 12 3)))))) ∧ (x144 = (-1) → (((2 : Int32) ≤ 0 → V m12_rule 135 [some (.ref 668), some (.int a0), some (.int a1), some (.int a2), some (.int a3), some (.int (mI m78 669 (Int32.toNatClampNeg a0))), some (.int x144), some (.int 0)] [] (mSetI m142 668 12 2) K) ∧ (¬ (2 : Int32) ≤ 0 → K (.inl (some (.int 0))) (mSetI m142 668 12 2)))))))))))) ∧ (¬ (1 : Int32) ≤ 0 → K (.inl (some (.int 0))) (mSetI m78 668 12 1))))))))))))) : V m12_rule 0 [some (.ref 668), some (.int a0), some (.int a1), some (.int a2), some (.int a3), none, none, none] [] m K := by
  refine r_aload_n (y := m12_rule) dX12_rule_0 rfl rfl ?_
  refine r_aload_n (y := m12_rule) dX12_rule_1 rfl rfl ?_
  refine r_iload_n (y := m12_rule) dX12_rule_2 rfl rfl ?_
  refine r_callV (y := m12_rule) (As := [(.int a0)]) (b := 668) (ci := 12) dX12_rule_3 rfl k12_isFunction lm_X12_180 rfl ⟨by decide, by decide⟩ (so_668 hm) (by decide) rfl (Nat.le_of_ble_eq_true rfl) (C.mono h ?_)
  rintro _ m1 ⟨x3, rfl, hm2, h⟩
  refine ⟨_, rfl, ?_⟩
  refine r_if_eq (y := m12_rule) (tgt := 33) dX12_rule_6 (by decide) (fun hc4 => ?_) (fun hc4 => ?_)
  · have h := h.1 hc4
    refine r_iconst (y := m12_rule) (v := 1) dX12_rule_33 (by decide) ?_
    refine r_goto (y := m12_rule) (tgt := 38) dX12_rule_34 (by decide) ?_
    refine p_X12_147 (y := m12_rule) rfl dX12_rule_38 hm2 ?_
    refine r_aload_n (y := m12_rule) dX12_rule_41 rfl rfl ?_
    refine g_X12_147 (y := m12_rule) rfl dX12_rule_42 (St.i hm2) ?_
    refine V.top (b := 1) (by first | rfl | simp [mI_set, mI_setR]) ?_
    refine r_if_le (y := m12_rule) (tgt := 50) dX12_rule_45 (by decide) (fun hc5 => ?_) (fun hc5 => ?_)
    · have h := h.1 hc5
      refine r_aload_n (y := m12_rule) dX12_rule_50 rfl rfl ?_
      refine g_X12_7 (y := m12_rule) rfl dX12_rule_51 (St.i hm2) ?_
      refine r_iload_n (y := m12_rule) dX12_rule_54 rfl rfl ?_
      obtain ⟨hb6, h⟩ := h
      refine r_iald (y := m12_rule) (n := 8) dX12_rule_55 (sa_669 (St.i hm2)) hb6 ?_
      refine V.top (b := (mI m1 669 (Int32.toNatClampNeg a0))) (by first | rfl | simp [mI_set, mI_setR]) ?_
      refine r_istore (y := m12_rule) (L' := [some (.ref 668), some (.int a0), some (.int a1), some (.int a2), some (.int a3), some (.int (mI m1 669 (Int32.toNatClampNeg a0))), none, none]) dX12_rule_56 (Nat.le_of_ble_eq_true rfl) rfl ?_
      refine r_iload (y := m12_rule) dX12_rule_58 rfl ?_
      refine r_if_le (y := m12_rule) (tgt := 72) dX12_rule_60 (by decide) (fun hc7 => ?_) (fun hc7 => ?_)
      · have h := h.1 hc7
        refine r_iconst (y := m12_rule) (v := 0) dX12_rule_72 (by decide) ?_
        refine r_istore (y := m12_rule) (L' := [some (.ref 668), some (.int a0), some (.int a1), some (.int a2), some (.int a3), some (.int (mI m1 669 (Int32.toNatClampNeg a0))), some (.int 0), none]) dX12_rule_73 (Nat.le_of_ble_eq_true rfl) rfl ?_
        refine r_iload (y := m12_rule) dX12_rule_75 rfl ?_
        refine r_iconst (y := m12_rule) (v := 1) dX12_rule_77 (by decide) ?_
        refine r_icmp_le (y := m12_rule) (tgt := 91) dX12_rule_78 (by decide) (fun hc8 => ?_) (fun hc8 => ?_)
        · have h := h.1 hc8
          refine r_iload (y := m12_rule) dX12_rule_91 rfl ?_
          refine r_istore (y := m12_rule) (L' := [some (.ref 668), some (.int a0), some (.int a1), some (.int a2), some (.int a3), some (.int (mI m1 669 (Int32.toNatClampNeg a0))), some (.int 0), none]) dX12_rule_93 (Nat.le_of_ble_eq_true rfl) rfl ?_
          refine r_aload_n (y := m12_rule) dX12_rule_95 rfl rfl ?_
          refine r_iload (y := m12_rule) dX12_rule_96 rfl ?_
          refine r_iconst (y := m12_rule) (v := (-1)) dX12_rule_98 (by decide) ?_
          refine r_icmp_ne (y := m12_rule) (tgt := 106) dX12_rule_99 (by decide) (fun hc9 => ?_) (fun hc9 => ?_)
          · have h := h.1 hc9
            refine r_aload_n (y := m12_rule) dX12_rule_106 rfl rfl ?_
            refine g_X12_191 (y := m12_rule) rfl dX12_rule_107 (St.i hm2) ?_
            refine V.top (b := (mI m1 668 9)) (by first | rfl | simp [mI_set, mI_setR]) ?_
            refine r_bipush (y := m12_rule) (v := 24) dX12_rule_110 (by decide) ?_
            refine r_icmp_ne (y := m12_rule) (tgt := 119) dX12_rule_112 (by decide) (fun hc10 => ?_) (fun hc10 => ?_)
            · have h := h.1 hc10
              refine r_iconst (y := m12_rule) (v := 0) dX12_rule_119 (by decide) ?_
              refine p_X12_147 (y := m12_rule) rfl dX12_rule_120 (St.i hm2) ?_
              refine r_aload_n (y := m12_rule) dX12_rule_123 rfl rfl ?_
              refine g_X12_147 (y := m12_rule) rfl dX12_rule_124 (St.i (St.i hm2)) ?_
              refine V.top (b := 0) (by first | rfl | simp [mI_set, mI_setR]) ?_
              refine r_if_le (y := m12_rule) (tgt := 132) dX12_rule_127 (by decide) (fun hc11 => ?_) (fun hc11 => ?_)
              · have h := h.1 hc11
                refine r_iconst (y := m12_rule) (v := 0) dX12_rule_132 (by decide) ?_
                refine r_istore (y := m12_rule) (L' := [some (.ref 668), some (.int a0), some (.int a1), some (.int a2), some (.int a3), some (.int (mI m1 669 (Int32.toNatClampNeg a0))), some (.int 0), some (.int 0)]) dX12_rule_133 (Nat.le_of_ble_eq_true rfl) rfl ?_
                exact h
              · have h := h.2 hc11
                refine r_iconst (y := m12_rule) (v := 0) dX12_rule_130 (by decide) ?_
                exact r_iret (y := m12_rule) dX12_rule_131 rfl rfl h
            · have h := h.2 hc10
              refine r_iconst (y := m12_rule) (v := 3) dX12_rule_115 (by decide) ?_
              refine r_goto (y := m12_rule) (tgt := 120) dX12_rule_116 (by decide) ?_
              refine p_X12_147 (y := m12_rule) rfl dX12_rule_120 (St.i hm2) ?_
              refine r_aload_n (y := m12_rule) dX12_rule_123 rfl rfl ?_
              refine g_X12_147 (y := m12_rule) rfl dX12_rule_124 (St.i (St.i hm2)) ?_
              refine V.top (b := 3) (by first | rfl | simp [mI_set, mI_setR]) ?_
              refine r_if_le (y := m12_rule) (tgt := 132) dX12_rule_127 (by decide) (fun hc12 => ?_) (fun hc12 => ?_)
              · have h := h.1 hc12
                refine r_iconst (y := m12_rule) (v := 0) dX12_rule_132 (by decide) ?_
                refine r_istore (y := m12_rule) (L' := [some (.ref 668), some (.int a0), some (.int a1), some (.int a2), some (.int a3), some (.int (mI m1 669 (Int32.toNatClampNeg a0))), some (.int 0), some (.int 0)]) dX12_rule_133 (Nat.le_of_ble_eq_true rfl) rfl ?_
                exact h
              · have h := h.2 hc12
                refine r_iconst (y := m12_rule) (v := 0) dX12_rule_130 (by decide) ?_
                exact r_iret (y := m12_rule) dX12_rule_131 rfl rfl h
          · have h := h.2 hc9
            refine r_iconst (y := m12_rule) (v := 2) dX12_rule_102 (by decide) ?_
            refine r_goto (y := m12_rule) (tgt := 120) dX12_rule_103 (by decide) ?_
            refine p_X12_147 (y := m12_rule) rfl dX12_rule_120 (St.i hm2) ?_
            refine r_aload_n (y := m12_rule) dX12_rule_123 rfl rfl ?_
            refine g_X12_147 (y := m12_rule) rfl dX12_rule_124 (St.i (St.i hm2)) ?_
            refine V.top (b := 2) (by first | rfl | simp [mI_set, mI_setR]) ?_
            refine r_if_le (y := m12_rule) (tgt := 132) dX12_rule_127 (by decide) (fun hc13 => ?_) (fun hc13 => ?_)
            · have h := h.1 hc13
              refine r_iconst (y := m12_rule) (v := 0) dX12_rule_132 (by decide) ?_
              refine r_istore (y := m12_rule) (L' := [some (.ref 668), some (.int a0), some (.int a1), some (.int a2), some (.int a3), some (.int (mI m1 669 (Int32.toNatClampNeg a0))), some (.int 0), some (.int 0)]) dX12_rule_133 (Nat.le_of_ble_eq_true rfl) rfl ?_
              exact h
            · have h := h.2 hc13
              refine r_iconst (y := m12_rule) (v := 0) dX12_rule_130 (by decide) ?_
              exact r_iret (y := m12_rule) dX12_rule_131 rfl rfl h
        · have h := h.2 hc8
          refine r_aload_n (y := m12_rule) dX12_rule_81 rfl rfl ?_
          refine r_iload_n (y := m12_rule) dX12_rule_82 rfl rfl ?_
          refine r_iload (y := m12_rule) dX12_rule_83 rfl ?_
          refine r_callV (y := m12_rule) (As := [(.int a2), (.int 0)]) (b := 668) (ci := 12) dX12_rule_85 rfl k12_patternNames lm_X12_187 rfl ⟨by decide, by decide⟩ (so_668 (St.i hm2)) (by decide) rfl (Nat.le_of_ble_eq_true rfl) (C.mono h ?_)
          rintro _ m14 ⟨x16, rfl, hm15, h⟩
          refine ⟨_, rfl, ?_⟩
          refine r_goto (y := m12_rule) (tgt := 93) dX12_rule_88 (by decide) ?_
          refine r_istore (y := m12_rule) (L' := [some (.ref 668), some (.int a0), some (.int a1), some (.int a2), some (.int a3), some (.int (mI m1 669 (Int32.toNatClampNeg a0))), some (.int x16), none]) dX12_rule_93 (Nat.le_of_ble_eq_true rfl) rfl ?_
          refine r_aload_n (y := m12_rule) dX12_rule_95 rfl rfl ?_
          refine r_iload (y := m12_rule) dX12_rule_96 rfl ?_
          refine r_iconst (y := m12_rule) (v := (-1)) dX12_rule_98 (by decide) ?_
          refine r_icmp_ne (y := m12_rule) (tgt := 106) dX12_rule_99 (by decide) (fun hc17 => ?_) (fun hc17 => ?_)
          · have h := h.1 hc17
            refine r_aload_n (y := m12_rule) dX12_rule_106 rfl rfl ?_
            refine g_X12_191 (y := m12_rule) rfl dX12_rule_107 hm15 ?_
            refine r_bipush (y := m12_rule) (v := 24) dX12_rule_110 (by decide) ?_
            refine r_icmp_ne (y := m12_rule) (tgt := 119) dX12_rule_112 (by decide) (fun hc18 => ?_) (fun hc18 => ?_)
            · have h := h.1 hc18
              refine r_iconst (y := m12_rule) (v := 0) dX12_rule_119 (by decide) ?_
              refine p_X12_147 (y := m12_rule) rfl dX12_rule_120 hm15 ?_
              refine r_aload_n (y := m12_rule) dX12_rule_123 rfl rfl ?_
              refine g_X12_147 (y := m12_rule) rfl dX12_rule_124 (St.i hm15) ?_
              refine V.top (b := 0) (by first | rfl | simp [mI_set, mI_setR]) ?_
              refine r_if_le (y := m12_rule) (tgt := 132) dX12_rule_127 (by decide) (fun hc19 => ?_) (fun hc19 => ?_)
              · have h := h.1 hc19
                refine r_iconst (y := m12_rule) (v := 0) dX12_rule_132 (by decide) ?_
                refine r_istore (y := m12_rule) (L' := [some (.ref 668), some (.int a0), some (.int a1), some (.int a2), some (.int a3), some (.int (mI m1 669 (Int32.toNatClampNeg a0))), some (.int x16), some (.int 0)]) dX12_rule_133 (Nat.le_of_ble_eq_true rfl) rfl ?_
                exact h
              · have h := h.2 hc19
                refine r_iconst (y := m12_rule) (v := 0) dX12_rule_130 (by decide) ?_
                exact r_iret (y := m12_rule) dX12_rule_131 rfl rfl h
            · have h := h.2 hc18
              refine r_iconst (y := m12_rule) (v := 3) dX12_rule_115 (by decide) ?_
              refine r_goto (y := m12_rule) (tgt := 120) dX12_rule_116 (by decide) ?_
              refine p_X12_147 (y := m12_rule) rfl dX12_rule_120 hm15 ?_
              refine r_aload_n (y := m12_rule) dX12_rule_123 rfl rfl ?_
              refine g_X12_147 (y := m12_rule) rfl dX12_rule_124 (St.i hm15) ?_
              refine V.top (b := 3) (by first | rfl | simp [mI_set, mI_setR]) ?_
              refine r_if_le (y := m12_rule) (tgt := 132) dX12_rule_127 (by decide) (fun hc20 => ?_) (fun hc20 => ?_)
              · have h := h.1 hc20
                refine r_iconst (y := m12_rule) (v := 0) dX12_rule_132 (by decide) ?_
                refine r_istore (y := m12_rule) (L' := [some (.ref 668), some (.int a0), some (.int a1), some (.int a2), some (.int a3), some (.int (mI m1 669 (Int32.toNatClampNeg a0))), some (.int x16), some (.int 0)]) dX12_rule_133 (Nat.le_of_ble_eq_true rfl) rfl ?_
                exact h
              · have h := h.2 hc20
                refine r_iconst (y := m12_rule) (v := 0) dX12_rule_130 (by decide) ?_
                exact r_iret (y := m12_rule) dX12_rule_131 rfl rfl h
          · have h := h.2 hc17
            refine r_iconst (y := m12_rule) (v := 2) dX12_rule_102 (by decide) ?_
            refine r_goto (y := m12_rule) (tgt := 120) dX12_rule_103 (by decide) ?_
            refine p_X12_147 (y := m12_rule) rfl dX12_rule_120 hm15 ?_
            refine r_aload_n (y := m12_rule) dX12_rule_123 rfl rfl ?_
            refine g_X12_147 (y := m12_rule) rfl dX12_rule_124 (St.i hm15) ?_
            refine V.top (b := 2) (by first | rfl | simp [mI_set, mI_setR]) ?_
            refine r_if_le (y := m12_rule) (tgt := 132) dX12_rule_127 (by decide) (fun hc21 => ?_) (fun hc21 => ?_)
            · have h := h.1 hc21
              refine r_iconst (y := m12_rule) (v := 0) dX12_rule_132 (by decide) ?_
              refine r_istore (y := m12_rule) (L' := [some (.ref 668), some (.int a0), some (.int a1), some (.int a2), some (.int a3), some (.int (mI m1 669 (Int32.toNatClampNeg a0))), some (.int x16), some (.int 0)]) dX12_rule_133 (Nat.le_of_ble_eq_true rfl) rfl ?_
              exact h
            · have h := h.2 hc21
              refine r_iconst (y := m12_rule) (v := 0) dX12_rule_130 (by decide) ?_
              exact r_iret (y := m12_rule) dX12_rule_131 rfl rfl h
      · have h := h.2 hc7
        refine r_aload_n (y := m12_rule) dX12_rule_63 rfl rfl ?_
        refine r_iload_n (y := m12_rule) dX12_rule_64 rfl rfl ?_
        refine r_iconst (y := m12_rule) (v := 0) dX12_rule_65 (by decide) ?_
        refine r_callV (y := m12_rule) (As := [(.int a1), (.int 0)]) (b := 668) (ci := 12) dX12_rule_66 rfl k12_patternNames lm_X12_187 rfl ⟨by decide, by decide⟩ (so_668 (St.i hm2)) (by decide) rfl (Nat.le_of_ble_eq_true rfl) (C.mono h ?_)
        rintro _ m22 ⟨x24, rfl, hm23, h⟩
        refine ⟨_, rfl, ?_⟩
        refine r_goto (y := m12_rule) (tgt := 73) dX12_rule_69 (by decide) ?_
        refine r_istore (y := m12_rule) (L' := [some (.ref 668), some (.int a0), some (.int a1), some (.int a2), some (.int a3), some (.int (mI m1 669 (Int32.toNatClampNeg a0))), some (.int x24), none]) dX12_rule_73 (Nat.le_of_ble_eq_true rfl) rfl ?_
        refine r_iload (y := m12_rule) dX12_rule_75 rfl ?_
        refine r_iconst (y := m12_rule) (v := 1) dX12_rule_77 (by decide) ?_
        refine r_icmp_le (y := m12_rule) (tgt := 91) dX12_rule_78 (by decide) (fun hc25 => ?_) (fun hc25 => ?_)
        · have h := h.1 hc25
          refine r_iload (y := m12_rule) dX12_rule_91 rfl ?_
          refine r_istore (y := m12_rule) (L' := [some (.ref 668), some (.int a0), some (.int a1), some (.int a2), some (.int a3), some (.int (mI m1 669 (Int32.toNatClampNeg a0))), some (.int x24), none]) dX12_rule_93 (Nat.le_of_ble_eq_true rfl) rfl ?_
          refine r_aload_n (y := m12_rule) dX12_rule_95 rfl rfl ?_
          refine r_iload (y := m12_rule) dX12_rule_96 rfl ?_
          refine r_iconst (y := m12_rule) (v := (-1)) dX12_rule_98 (by decide) ?_
          refine r_icmp_ne (y := m12_rule) (tgt := 106) dX12_rule_99 (by decide) (fun hc26 => ?_) (fun hc26 => ?_)
          · have h := h.1 hc26
            refine r_aload_n (y := m12_rule) dX12_rule_106 rfl rfl ?_
            refine g_X12_191 (y := m12_rule) rfl dX12_rule_107 hm23 ?_
            refine r_bipush (y := m12_rule) (v := 24) dX12_rule_110 (by decide) ?_
            refine r_icmp_ne (y := m12_rule) (tgt := 119) dX12_rule_112 (by decide) (fun hc27 => ?_) (fun hc27 => ?_)
            · have h := h.1 hc27
              refine r_iconst (y := m12_rule) (v := 0) dX12_rule_119 (by decide) ?_
              refine p_X12_147 (y := m12_rule) rfl dX12_rule_120 hm23 ?_
              refine r_aload_n (y := m12_rule) dX12_rule_123 rfl rfl ?_
              refine g_X12_147 (y := m12_rule) rfl dX12_rule_124 (St.i hm23) ?_
              refine V.top (b := 0) (by first | rfl | simp [mI_set, mI_setR]) ?_
              refine r_if_le (y := m12_rule) (tgt := 132) dX12_rule_127 (by decide) (fun hc28 => ?_) (fun hc28 => ?_)
              · have h := h.1 hc28
                refine r_iconst (y := m12_rule) (v := 0) dX12_rule_132 (by decide) ?_
                refine r_istore (y := m12_rule) (L' := [some (.ref 668), some (.int a0), some (.int a1), some (.int a2), some (.int a3), some (.int (mI m1 669 (Int32.toNatClampNeg a0))), some (.int x24), some (.int 0)]) dX12_rule_133 (Nat.le_of_ble_eq_true rfl) rfl ?_
                exact h
              · have h := h.2 hc28
                refine r_iconst (y := m12_rule) (v := 0) dX12_rule_130 (by decide) ?_
                exact r_iret (y := m12_rule) dX12_rule_131 rfl rfl h
            · have h := h.2 hc27
              refine r_iconst (y := m12_rule) (v := 3) dX12_rule_115 (by decide) ?_
              refine r_goto (y := m12_rule) (tgt := 120) dX12_rule_116 (by decide) ?_
              refine p_X12_147 (y := m12_rule) rfl dX12_rule_120 hm23 ?_
              refine r_aload_n (y := m12_rule) dX12_rule_123 rfl rfl ?_
              refine g_X12_147 (y := m12_rule) rfl dX12_rule_124 (St.i hm23) ?_
              refine V.top (b := 3) (by first | rfl | simp [mI_set, mI_setR]) ?_
              refine r_if_le (y := m12_rule) (tgt := 132) dX12_rule_127 (by decide) (fun hc29 => ?_) (fun hc29 => ?_)
              · have h := h.1 hc29
                refine r_iconst (y := m12_rule) (v := 0) dX12_rule_132 (by decide) ?_
                refine r_istore (y := m12_rule) (L' := [some (.ref 668), some (.int a0), some (.int a1), some (.int a2), some (.int a3), some (.int (mI m1 669 (Int32.toNatClampNeg a0))), some (.int x24), some (.int 0)]) dX12_rule_133 (Nat.le_of_ble_eq_true rfl) rfl ?_
                exact h
              · have h := h.2 hc29
                refine r_iconst (y := m12_rule) (v := 0) dX12_rule_130 (by decide) ?_
                exact r_iret (y := m12_rule) dX12_rule_131 rfl rfl h
          · have h := h.2 hc26
            refine r_iconst (y := m12_rule) (v := 2) dX12_rule_102 (by decide) ?_
            refine r_goto (y := m12_rule) (tgt := 120) dX12_rule_103 (by decide) ?_
            refine p_X12_147 (y := m12_rule) rfl dX12_rule_120 hm23 ?_
            refine r_aload_n (y := m12_rule) dX12_rule_123 rfl rfl ?_
            refine g_X12_147 (y := m12_rule) rfl dX12_rule_124 (St.i hm23) ?_
            refine V.top (b := 2) (by first | rfl | simp [mI_set, mI_setR]) ?_
            refine r_if_le (y := m12_rule) (tgt := 132) dX12_rule_127 (by decide) (fun hc30 => ?_) (fun hc30 => ?_)
            · have h := h.1 hc30
              refine r_iconst (y := m12_rule) (v := 0) dX12_rule_132 (by decide) ?_
              refine r_istore (y := m12_rule) (L' := [some (.ref 668), some (.int a0), some (.int a1), some (.int a2), some (.int a3), some (.int (mI m1 669 (Int32.toNatClampNeg a0))), some (.int x24), some (.int 0)]) dX12_rule_133 (Nat.le_of_ble_eq_true rfl) rfl ?_
              exact h
            · have h := h.2 hc30
              refine r_iconst (y := m12_rule) (v := 0) dX12_rule_130 (by decide) ?_
              exact r_iret (y := m12_rule) dX12_rule_131 rfl rfl h
        · have h := h.2 hc25
          refine r_aload_n (y := m12_rule) dX12_rule_81 rfl rfl ?_
          refine r_iload_n (y := m12_rule) dX12_rule_82 rfl rfl ?_
          refine r_iload (y := m12_rule) dX12_rule_83 rfl ?_
          refine r_callV (y := m12_rule) (As := [(.int a2), (.int x24)]) (b := 668) (ci := 12) dX12_rule_85 rfl k12_patternNames lm_X12_187 rfl ⟨by decide, by decide⟩ (so_668 hm23) (by decide) rfl (Nat.le_of_ble_eq_true rfl) (C.mono h ?_)
          rintro _ m31 ⟨x33, rfl, hm32, h⟩
          refine ⟨_, rfl, ?_⟩
          refine r_goto (y := m12_rule) (tgt := 93) dX12_rule_88 (by decide) ?_
          refine r_istore (y := m12_rule) (L' := [some (.ref 668), some (.int a0), some (.int a1), some (.int a2), some (.int a3), some (.int (mI m1 669 (Int32.toNatClampNeg a0))), some (.int x33), none]) dX12_rule_93 (Nat.le_of_ble_eq_true rfl) rfl ?_
          refine r_aload_n (y := m12_rule) dX12_rule_95 rfl rfl ?_
          refine r_iload (y := m12_rule) dX12_rule_96 rfl ?_
          refine r_iconst (y := m12_rule) (v := (-1)) dX12_rule_98 (by decide) ?_
          refine r_icmp_ne (y := m12_rule) (tgt := 106) dX12_rule_99 (by decide) (fun hc34 => ?_) (fun hc34 => ?_)
          · have h := h.1 hc34
            refine r_aload_n (y := m12_rule) dX12_rule_106 rfl rfl ?_
            refine g_X12_191 (y := m12_rule) rfl dX12_rule_107 hm32 ?_
            refine r_bipush (y := m12_rule) (v := 24) dX12_rule_110 (by decide) ?_
            refine r_icmp_ne (y := m12_rule) (tgt := 119) dX12_rule_112 (by decide) (fun hc35 => ?_) (fun hc35 => ?_)
            · have h := h.1 hc35
              refine r_iconst (y := m12_rule) (v := 0) dX12_rule_119 (by decide) ?_
              refine p_X12_147 (y := m12_rule) rfl dX12_rule_120 hm32 ?_
              refine r_aload_n (y := m12_rule) dX12_rule_123 rfl rfl ?_
              refine g_X12_147 (y := m12_rule) rfl dX12_rule_124 (St.i hm32) ?_
              refine V.top (b := 0) (by first | rfl | simp [mI_set, mI_setR]) ?_
              refine r_if_le (y := m12_rule) (tgt := 132) dX12_rule_127 (by decide) (fun hc36 => ?_) (fun hc36 => ?_)
              · have h := h.1 hc36
                refine r_iconst (y := m12_rule) (v := 0) dX12_rule_132 (by decide) ?_
                refine r_istore (y := m12_rule) (L' := [some (.ref 668), some (.int a0), some (.int a1), some (.int a2), some (.int a3), some (.int (mI m1 669 (Int32.toNatClampNeg a0))), some (.int x33), some (.int 0)]) dX12_rule_133 (Nat.le_of_ble_eq_true rfl) rfl ?_
                exact h
              · have h := h.2 hc36
                refine r_iconst (y := m12_rule) (v := 0) dX12_rule_130 (by decide) ?_
                exact r_iret (y := m12_rule) dX12_rule_131 rfl rfl h
            · have h := h.2 hc35
              refine r_iconst (y := m12_rule) (v := 3) dX12_rule_115 (by decide) ?_
              refine r_goto (y := m12_rule) (tgt := 120) dX12_rule_116 (by decide) ?_
              refine p_X12_147 (y := m12_rule) rfl dX12_rule_120 hm32 ?_
              refine r_aload_n (y := m12_rule) dX12_rule_123 rfl rfl ?_
              refine g_X12_147 (y := m12_rule) rfl dX12_rule_124 (St.i hm32) ?_
              refine V.top (b := 3) (by first | rfl | simp [mI_set, mI_setR]) ?_
              refine r_if_le (y := m12_rule) (tgt := 132) dX12_rule_127 (by decide) (fun hc37 => ?_) (fun hc37 => ?_)
              · have h := h.1 hc37
                refine r_iconst (y := m12_rule) (v := 0) dX12_rule_132 (by decide) ?_
                refine r_istore (y := m12_rule) (L' := [some (.ref 668), some (.int a0), some (.int a1), some (.int a2), some (.int a3), some (.int (mI m1 669 (Int32.toNatClampNeg a0))), some (.int x33), some (.int 0)]) dX12_rule_133 (Nat.le_of_ble_eq_true rfl) rfl ?_
                exact h
              · have h := h.2 hc37
                refine r_iconst (y := m12_rule) (v := 0) dX12_rule_130 (by decide) ?_
                exact r_iret (y := m12_rule) dX12_rule_131 rfl rfl h
          · have h := h.2 hc34
            refine r_iconst (y := m12_rule) (v := 2) dX12_rule_102 (by decide) ?_
            refine r_goto (y := m12_rule) (tgt := 120) dX12_rule_103 (by decide) ?_
            refine p_X12_147 (y := m12_rule) rfl dX12_rule_120 hm32 ?_
            refine r_aload_n (y := m12_rule) dX12_rule_123 rfl rfl ?_
            refine g_X12_147 (y := m12_rule) rfl dX12_rule_124 (St.i hm32) ?_
            refine V.top (b := 2) (by first | rfl | simp [mI_set, mI_setR]) ?_
            refine r_if_le (y := m12_rule) (tgt := 132) dX12_rule_127 (by decide) (fun hc38 => ?_) (fun hc38 => ?_)
            · have h := h.1 hc38
              refine r_iconst (y := m12_rule) (v := 0) dX12_rule_132 (by decide) ?_
              refine r_istore (y := m12_rule) (L' := [some (.ref 668), some (.int a0), some (.int a1), some (.int a2), some (.int a3), some (.int (mI m1 669 (Int32.toNatClampNeg a0))), some (.int x33), some (.int 0)]) dX12_rule_133 (Nat.le_of_ble_eq_true rfl) rfl ?_
              exact h
            · have h := h.2 hc38
              refine r_iconst (y := m12_rule) (v := 0) dX12_rule_130 (by decide) ?_
              exact r_iret (y := m12_rule) dX12_rule_131 rfl rfl h
    · have h := h.2 hc5
      refine r_iconst (y := m12_rule) (v := 0) dX12_rule_48 (by decide) ?_
      exact r_iret (y := m12_rule) dX12_rule_49 rfl rfl h
  · have h := h.2 hc4
    refine r_aload_n (y := m12_rule) dX12_rule_9 rfl rfl ?_
    refine r_aload_n (y := m12_rule) dX12_rule_10 rfl rfl ?_
    refine g_X12_7 (y := m12_rule) rfl dX12_rule_11 hm2 ?_
    refine r_iload_n (y := m12_rule) dX12_rule_14 rfl rfl ?_
    obtain ⟨hb39, h⟩ := h
    refine r_iald (y := m12_rule) (n := 8) dX12_rule_15 (sa_669 hm2) hb39 ?_
    refine r_iload_n (y := m12_rule) dX12_rule_16 rfl rfl ?_
    refine r_iload_n (y := m12_rule) dX12_rule_17 rfl rfl ?_
    refine r_callV (y := m12_rule) (As := [(.int (mI m1 669 (Int32.toNatClampNeg a0))), (.int a1), (.int a2)]) (b := 668) (ci := 12) dX12_rule_18 rfl k12_areParts lm_X12_177 rfl ⟨by decide, by decide⟩ (so_668 hm2) (by decide) rfl (Nat.le_of_ble_eq_true rfl) (C.mono h ?_)
    rintro _ m40 ⟨x42, rfl, hm41, h⟩
    refine ⟨_, rfl, ?_⟩
    refine r_if_eq (y := m12_rule) (tgt := 33) dX12_rule_21 (by decide) (fun hc43 => ?_) (fun hc43 => ?_)
    · have h := h.1 hc43
      refine r_iconst (y := m12_rule) (v := 1) dX12_rule_33 (by decide) ?_
      refine r_goto (y := m12_rule) (tgt := 38) dX12_rule_34 (by decide) ?_
      refine p_X12_147 (y := m12_rule) rfl dX12_rule_38 hm41 ?_
      refine r_aload_n (y := m12_rule) dX12_rule_41 rfl rfl ?_
      refine g_X12_147 (y := m12_rule) rfl dX12_rule_42 (St.i hm41) ?_
      refine V.top (b := 1) (by first | rfl | simp [mI_set, mI_setR]) ?_
      refine r_if_le (y := m12_rule) (tgt := 50) dX12_rule_45 (by decide) (fun hc44 => ?_) (fun hc44 => ?_)
      · have h := h.1 hc44
        refine r_aload_n (y := m12_rule) dX12_rule_50 rfl rfl ?_
        refine g_X12_7 (y := m12_rule) rfl dX12_rule_51 (St.i hm41) ?_
        refine r_iload_n (y := m12_rule) dX12_rule_54 rfl rfl ?_
        obtain ⟨hb45, h⟩ := h
        refine r_iald (y := m12_rule) (n := 8) dX12_rule_55 (sa_669 (St.i hm41)) hb45 ?_
        refine V.top (b := (mI m40 669 (Int32.toNatClampNeg a0))) (by first | rfl | simp [mI_set, mI_setR]) ?_
        refine r_istore (y := m12_rule) (L' := [some (.ref 668), some (.int a0), some (.int a1), some (.int a2), some (.int a3), some (.int (mI m40 669 (Int32.toNatClampNeg a0))), none, none]) dX12_rule_56 (Nat.le_of_ble_eq_true rfl) rfl ?_
        refine r_iload (y := m12_rule) dX12_rule_58 rfl ?_
        refine r_if_le (y := m12_rule) (tgt := 72) dX12_rule_60 (by decide) (fun hc46 => ?_) (fun hc46 => ?_)
        · have h := h.1 hc46
          refine r_iconst (y := m12_rule) (v := 0) dX12_rule_72 (by decide) ?_
          refine r_istore (y := m12_rule) (L' := [some (.ref 668), some (.int a0), some (.int a1), some (.int a2), some (.int a3), some (.int (mI m40 669 (Int32.toNatClampNeg a0))), some (.int 0), none]) dX12_rule_73 (Nat.le_of_ble_eq_true rfl) rfl ?_
          refine r_iload (y := m12_rule) dX12_rule_75 rfl ?_
          refine r_iconst (y := m12_rule) (v := 1) dX12_rule_77 (by decide) ?_
          refine r_icmp_le (y := m12_rule) (tgt := 91) dX12_rule_78 (by decide) (fun hc47 => ?_) (fun hc47 => ?_)
          · have h := h.1 hc47
            refine r_iload (y := m12_rule) dX12_rule_91 rfl ?_
            refine r_istore (y := m12_rule) (L' := [some (.ref 668), some (.int a0), some (.int a1), some (.int a2), some (.int a3), some (.int (mI m40 669 (Int32.toNatClampNeg a0))), some (.int 0), none]) dX12_rule_93 (Nat.le_of_ble_eq_true rfl) rfl ?_
            refine r_aload_n (y := m12_rule) dX12_rule_95 rfl rfl ?_
            refine r_iload (y := m12_rule) dX12_rule_96 rfl ?_
            refine r_iconst (y := m12_rule) (v := (-1)) dX12_rule_98 (by decide) ?_
            refine r_icmp_ne (y := m12_rule) (tgt := 106) dX12_rule_99 (by decide) (fun hc48 => ?_) (fun hc48 => ?_)
            · have h := h.1 hc48
              refine r_aload_n (y := m12_rule) dX12_rule_106 rfl rfl ?_
              refine g_X12_191 (y := m12_rule) rfl dX12_rule_107 (St.i hm41) ?_
              refine V.top (b := (mI m40 668 9)) (by first | rfl | simp [mI_set, mI_setR]) ?_
              refine r_bipush (y := m12_rule) (v := 24) dX12_rule_110 (by decide) ?_
              refine r_icmp_ne (y := m12_rule) (tgt := 119) dX12_rule_112 (by decide) (fun hc49 => ?_) (fun hc49 => ?_)
              · have h := h.1 hc49
                refine r_iconst (y := m12_rule) (v := 0) dX12_rule_119 (by decide) ?_
                refine p_X12_147 (y := m12_rule) rfl dX12_rule_120 (St.i hm41) ?_
                refine r_aload_n (y := m12_rule) dX12_rule_123 rfl rfl ?_
                refine g_X12_147 (y := m12_rule) rfl dX12_rule_124 (St.i (St.i hm41)) ?_
                refine V.top (b := 0) (by first | rfl | simp [mI_set, mI_setR]) ?_
                refine r_if_le (y := m12_rule) (tgt := 132) dX12_rule_127 (by decide) (fun hc50 => ?_) (fun hc50 => ?_)
                · have h := h.1 hc50
                  refine r_iconst (y := m12_rule) (v := 0) dX12_rule_132 (by decide) ?_
                  refine r_istore (y := m12_rule) (L' := [some (.ref 668), some (.int a0), some (.int a1), some (.int a2), some (.int a3), some (.int (mI m40 669 (Int32.toNatClampNeg a0))), some (.int 0), some (.int 0)]) dX12_rule_133 (Nat.le_of_ble_eq_true rfl) rfl ?_
                  exact h
                · have h := h.2 hc50
                  refine r_iconst (y := m12_rule) (v := 0) dX12_rule_130 (by decide) ?_
                  exact r_iret (y := m12_rule) dX12_rule_131 rfl rfl h
              · have h := h.2 hc49
                refine r_iconst (y := m12_rule) (v := 3) dX12_rule_115 (by decide) ?_
                refine r_goto (y := m12_rule) (tgt := 120) dX12_rule_116 (by decide) ?_
                refine p_X12_147 (y := m12_rule) rfl dX12_rule_120 (St.i hm41) ?_
                refine r_aload_n (y := m12_rule) dX12_rule_123 rfl rfl ?_
                refine g_X12_147 (y := m12_rule) rfl dX12_rule_124 (St.i (St.i hm41)) ?_
                refine V.top (b := 3) (by first | rfl | simp [mI_set, mI_setR]) ?_
                refine r_if_le (y := m12_rule) (tgt := 132) dX12_rule_127 (by decide) (fun hc51 => ?_) (fun hc51 => ?_)
                · have h := h.1 hc51
                  refine r_iconst (y := m12_rule) (v := 0) dX12_rule_132 (by decide) ?_
                  refine r_istore (y := m12_rule) (L' := [some (.ref 668), some (.int a0), some (.int a1), some (.int a2), some (.int a3), some (.int (mI m40 669 (Int32.toNatClampNeg a0))), some (.int 0), some (.int 0)]) dX12_rule_133 (Nat.le_of_ble_eq_true rfl) rfl ?_
                  exact h
                · have h := h.2 hc51
                  refine r_iconst (y := m12_rule) (v := 0) dX12_rule_130 (by decide) ?_
                  exact r_iret (y := m12_rule) dX12_rule_131 rfl rfl h
            · have h := h.2 hc48
              refine r_iconst (y := m12_rule) (v := 2) dX12_rule_102 (by decide) ?_
              refine r_goto (y := m12_rule) (tgt := 120) dX12_rule_103 (by decide) ?_
              refine p_X12_147 (y := m12_rule) rfl dX12_rule_120 (St.i hm41) ?_
              refine r_aload_n (y := m12_rule) dX12_rule_123 rfl rfl ?_
              refine g_X12_147 (y := m12_rule) rfl dX12_rule_124 (St.i (St.i hm41)) ?_
              refine V.top (b := 2) (by first | rfl | simp [mI_set, mI_setR]) ?_
              refine r_if_le (y := m12_rule) (tgt := 132) dX12_rule_127 (by decide) (fun hc52 => ?_) (fun hc52 => ?_)
              · have h := h.1 hc52
                refine r_iconst (y := m12_rule) (v := 0) dX12_rule_132 (by decide) ?_
                refine r_istore (y := m12_rule) (L' := [some (.ref 668), some (.int a0), some (.int a1), some (.int a2), some (.int a3), some (.int (mI m40 669 (Int32.toNatClampNeg a0))), some (.int 0), some (.int 0)]) dX12_rule_133 (Nat.le_of_ble_eq_true rfl) rfl ?_
                exact h
              · have h := h.2 hc52
                refine r_iconst (y := m12_rule) (v := 0) dX12_rule_130 (by decide) ?_
                exact r_iret (y := m12_rule) dX12_rule_131 rfl rfl h
          · have h := h.2 hc47
            refine r_aload_n (y := m12_rule) dX12_rule_81 rfl rfl ?_
            refine r_iload_n (y := m12_rule) dX12_rule_82 rfl rfl ?_
            refine r_iload (y := m12_rule) dX12_rule_83 rfl ?_
            refine r_callV (y := m12_rule) (As := [(.int a2), (.int 0)]) (b := 668) (ci := 12) dX12_rule_85 rfl k12_patternNames lm_X12_187 rfl ⟨by decide, by decide⟩ (so_668 (St.i hm41)) (by decide) rfl (Nat.le_of_ble_eq_true rfl) (C.mono h ?_)
            rintro _ m53 ⟨x55, rfl, hm54, h⟩
            refine ⟨_, rfl, ?_⟩
            refine r_goto (y := m12_rule) (tgt := 93) dX12_rule_88 (by decide) ?_
            refine r_istore (y := m12_rule) (L' := [some (.ref 668), some (.int a0), some (.int a1), some (.int a2), some (.int a3), some (.int (mI m40 669 (Int32.toNatClampNeg a0))), some (.int x55), none]) dX12_rule_93 (Nat.le_of_ble_eq_true rfl) rfl ?_
            refine r_aload_n (y := m12_rule) dX12_rule_95 rfl rfl ?_
            refine r_iload (y := m12_rule) dX12_rule_96 rfl ?_
            refine r_iconst (y := m12_rule) (v := (-1)) dX12_rule_98 (by decide) ?_
            refine r_icmp_ne (y := m12_rule) (tgt := 106) dX12_rule_99 (by decide) (fun hc56 => ?_) (fun hc56 => ?_)
            · have h := h.1 hc56
              refine r_aload_n (y := m12_rule) dX12_rule_106 rfl rfl ?_
              refine g_X12_191 (y := m12_rule) rfl dX12_rule_107 hm54 ?_
              refine r_bipush (y := m12_rule) (v := 24) dX12_rule_110 (by decide) ?_
              refine r_icmp_ne (y := m12_rule) (tgt := 119) dX12_rule_112 (by decide) (fun hc57 => ?_) (fun hc57 => ?_)
              · have h := h.1 hc57
                refine r_iconst (y := m12_rule) (v := 0) dX12_rule_119 (by decide) ?_
                refine p_X12_147 (y := m12_rule) rfl dX12_rule_120 hm54 ?_
                refine r_aload_n (y := m12_rule) dX12_rule_123 rfl rfl ?_
                refine g_X12_147 (y := m12_rule) rfl dX12_rule_124 (St.i hm54) ?_
                refine V.top (b := 0) (by first | rfl | simp [mI_set, mI_setR]) ?_
                refine r_if_le (y := m12_rule) (tgt := 132) dX12_rule_127 (by decide) (fun hc58 => ?_) (fun hc58 => ?_)
                · have h := h.1 hc58
                  refine r_iconst (y := m12_rule) (v := 0) dX12_rule_132 (by decide) ?_
                  refine r_istore (y := m12_rule) (L' := [some (.ref 668), some (.int a0), some (.int a1), some (.int a2), some (.int a3), some (.int (mI m40 669 (Int32.toNatClampNeg a0))), some (.int x55), some (.int 0)]) dX12_rule_133 (Nat.le_of_ble_eq_true rfl) rfl ?_
                  exact h
                · have h := h.2 hc58
                  refine r_iconst (y := m12_rule) (v := 0) dX12_rule_130 (by decide) ?_
                  exact r_iret (y := m12_rule) dX12_rule_131 rfl rfl h
              · have h := h.2 hc57
                refine r_iconst (y := m12_rule) (v := 3) dX12_rule_115 (by decide) ?_
                refine r_goto (y := m12_rule) (tgt := 120) dX12_rule_116 (by decide) ?_
                refine p_X12_147 (y := m12_rule) rfl dX12_rule_120 hm54 ?_
                refine r_aload_n (y := m12_rule) dX12_rule_123 rfl rfl ?_
                refine g_X12_147 (y := m12_rule) rfl dX12_rule_124 (St.i hm54) ?_
                refine V.top (b := 3) (by first | rfl | simp [mI_set, mI_setR]) ?_
                refine r_if_le (y := m12_rule) (tgt := 132) dX12_rule_127 (by decide) (fun hc59 => ?_) (fun hc59 => ?_)
                · have h := h.1 hc59
                  refine r_iconst (y := m12_rule) (v := 0) dX12_rule_132 (by decide) ?_
                  refine r_istore (y := m12_rule) (L' := [some (.ref 668), some (.int a0), some (.int a1), some (.int a2), some (.int a3), some (.int (mI m40 669 (Int32.toNatClampNeg a0))), some (.int x55), some (.int 0)]) dX12_rule_133 (Nat.le_of_ble_eq_true rfl) rfl ?_
                  exact h
                · have h := h.2 hc59
                  refine r_iconst (y := m12_rule) (v := 0) dX12_rule_130 (by decide) ?_
                  exact r_iret (y := m12_rule) dX12_rule_131 rfl rfl h
            · have h := h.2 hc56
              refine r_iconst (y := m12_rule) (v := 2) dX12_rule_102 (by decide) ?_
              refine r_goto (y := m12_rule) (tgt := 120) dX12_rule_103 (by decide) ?_
              refine p_X12_147 (y := m12_rule) rfl dX12_rule_120 hm54 ?_
              refine r_aload_n (y := m12_rule) dX12_rule_123 rfl rfl ?_
              refine g_X12_147 (y := m12_rule) rfl dX12_rule_124 (St.i hm54) ?_
              refine V.top (b := 2) (by first | rfl | simp [mI_set, mI_setR]) ?_
              refine r_if_le (y := m12_rule) (tgt := 132) dX12_rule_127 (by decide) (fun hc60 => ?_) (fun hc60 => ?_)
              · have h := h.1 hc60
                refine r_iconst (y := m12_rule) (v := 0) dX12_rule_132 (by decide) ?_
                refine r_istore (y := m12_rule) (L' := [some (.ref 668), some (.int a0), some (.int a1), some (.int a2), some (.int a3), some (.int (mI m40 669 (Int32.toNatClampNeg a0))), some (.int x55), some (.int 0)]) dX12_rule_133 (Nat.le_of_ble_eq_true rfl) rfl ?_
                exact h
              · have h := h.2 hc60
                refine r_iconst (y := m12_rule) (v := 0) dX12_rule_130 (by decide) ?_
                exact r_iret (y := m12_rule) dX12_rule_131 rfl rfl h
        · have h := h.2 hc46
          refine r_aload_n (y := m12_rule) dX12_rule_63 rfl rfl ?_
          refine r_iload_n (y := m12_rule) dX12_rule_64 rfl rfl ?_
          refine r_iconst (y := m12_rule) (v := 0) dX12_rule_65 (by decide) ?_
          refine r_callV (y := m12_rule) (As := [(.int a1), (.int 0)]) (b := 668) (ci := 12) dX12_rule_66 rfl k12_patternNames lm_X12_187 rfl ⟨by decide, by decide⟩ (so_668 (St.i hm41)) (by decide) rfl (Nat.le_of_ble_eq_true rfl) (C.mono h ?_)
          rintro _ m61 ⟨x63, rfl, hm62, h⟩
          refine ⟨_, rfl, ?_⟩
          refine r_goto (y := m12_rule) (tgt := 73) dX12_rule_69 (by decide) ?_
          refine r_istore (y := m12_rule) (L' := [some (.ref 668), some (.int a0), some (.int a1), some (.int a2), some (.int a3), some (.int (mI m40 669 (Int32.toNatClampNeg a0))), some (.int x63), none]) dX12_rule_73 (Nat.le_of_ble_eq_true rfl) rfl ?_
          refine r_iload (y := m12_rule) dX12_rule_75 rfl ?_
          refine r_iconst (y := m12_rule) (v := 1) dX12_rule_77 (by decide) ?_
          refine r_icmp_le (y := m12_rule) (tgt := 91) dX12_rule_78 (by decide) (fun hc64 => ?_) (fun hc64 => ?_)
          · have h := h.1 hc64
            refine r_iload (y := m12_rule) dX12_rule_91 rfl ?_
            refine r_istore (y := m12_rule) (L' := [some (.ref 668), some (.int a0), some (.int a1), some (.int a2), some (.int a3), some (.int (mI m40 669 (Int32.toNatClampNeg a0))), some (.int x63), none]) dX12_rule_93 (Nat.le_of_ble_eq_true rfl) rfl ?_
            refine r_aload_n (y := m12_rule) dX12_rule_95 rfl rfl ?_
            refine r_iload (y := m12_rule) dX12_rule_96 rfl ?_
            refine r_iconst (y := m12_rule) (v := (-1)) dX12_rule_98 (by decide) ?_
            refine r_icmp_ne (y := m12_rule) (tgt := 106) dX12_rule_99 (by decide) (fun hc65 => ?_) (fun hc65 => ?_)
            · have h := h.1 hc65
              refine r_aload_n (y := m12_rule) dX12_rule_106 rfl rfl ?_
              refine g_X12_191 (y := m12_rule) rfl dX12_rule_107 hm62 ?_
              refine r_bipush (y := m12_rule) (v := 24) dX12_rule_110 (by decide) ?_
              refine r_icmp_ne (y := m12_rule) (tgt := 119) dX12_rule_112 (by decide) (fun hc66 => ?_) (fun hc66 => ?_)
              · have h := h.1 hc66
                refine r_iconst (y := m12_rule) (v := 0) dX12_rule_119 (by decide) ?_
                refine p_X12_147 (y := m12_rule) rfl dX12_rule_120 hm62 ?_
                refine r_aload_n (y := m12_rule) dX12_rule_123 rfl rfl ?_
                refine g_X12_147 (y := m12_rule) rfl dX12_rule_124 (St.i hm62) ?_
                refine V.top (b := 0) (by first | rfl | simp [mI_set, mI_setR]) ?_
                refine r_if_le (y := m12_rule) (tgt := 132) dX12_rule_127 (by decide) (fun hc67 => ?_) (fun hc67 => ?_)
                · have h := h.1 hc67
                  refine r_iconst (y := m12_rule) (v := 0) dX12_rule_132 (by decide) ?_
                  refine r_istore (y := m12_rule) (L' := [some (.ref 668), some (.int a0), some (.int a1), some (.int a2), some (.int a3), some (.int (mI m40 669 (Int32.toNatClampNeg a0))), some (.int x63), some (.int 0)]) dX12_rule_133 (Nat.le_of_ble_eq_true rfl) rfl ?_
                  exact h
                · have h := h.2 hc67
                  refine r_iconst (y := m12_rule) (v := 0) dX12_rule_130 (by decide) ?_
                  exact r_iret (y := m12_rule) dX12_rule_131 rfl rfl h
              · have h := h.2 hc66
                refine r_iconst (y := m12_rule) (v := 3) dX12_rule_115 (by decide) ?_
                refine r_goto (y := m12_rule) (tgt := 120) dX12_rule_116 (by decide) ?_
                refine p_X12_147 (y := m12_rule) rfl dX12_rule_120 hm62 ?_
                refine r_aload_n (y := m12_rule) dX12_rule_123 rfl rfl ?_
                refine g_X12_147 (y := m12_rule) rfl dX12_rule_124 (St.i hm62) ?_
                refine V.top (b := 3) (by first | rfl | simp [mI_set, mI_setR]) ?_
                refine r_if_le (y := m12_rule) (tgt := 132) dX12_rule_127 (by decide) (fun hc68 => ?_) (fun hc68 => ?_)
                · have h := h.1 hc68
                  refine r_iconst (y := m12_rule) (v := 0) dX12_rule_132 (by decide) ?_
                  refine r_istore (y := m12_rule) (L' := [some (.ref 668), some (.int a0), some (.int a1), some (.int a2), some (.int a3), some (.int (mI m40 669 (Int32.toNatClampNeg a0))), some (.int x63), some (.int 0)]) dX12_rule_133 (Nat.le_of_ble_eq_true rfl) rfl ?_
                  exact h
                · have h := h.2 hc68
                  refine r_iconst (y := m12_rule) (v := 0) dX12_rule_130 (by decide) ?_
                  exact r_iret (y := m12_rule) dX12_rule_131 rfl rfl h
            · have h := h.2 hc65
              refine r_iconst (y := m12_rule) (v := 2) dX12_rule_102 (by decide) ?_
              refine r_goto (y := m12_rule) (tgt := 120) dX12_rule_103 (by decide) ?_
              refine p_X12_147 (y := m12_rule) rfl dX12_rule_120 hm62 ?_
              refine r_aload_n (y := m12_rule) dX12_rule_123 rfl rfl ?_
              refine g_X12_147 (y := m12_rule) rfl dX12_rule_124 (St.i hm62) ?_
              refine V.top (b := 2) (by first | rfl | simp [mI_set, mI_setR]) ?_
              refine r_if_le (y := m12_rule) (tgt := 132) dX12_rule_127 (by decide) (fun hc69 => ?_) (fun hc69 => ?_)
              · have h := h.1 hc69
                refine r_iconst (y := m12_rule) (v := 0) dX12_rule_132 (by decide) ?_
                refine r_istore (y := m12_rule) (L' := [some (.ref 668), some (.int a0), some (.int a1), some (.int a2), some (.int a3), some (.int (mI m40 669 (Int32.toNatClampNeg a0))), some (.int x63), some (.int 0)]) dX12_rule_133 (Nat.le_of_ble_eq_true rfl) rfl ?_
                exact h
              · have h := h.2 hc69
                refine r_iconst (y := m12_rule) (v := 0) dX12_rule_130 (by decide) ?_
                exact r_iret (y := m12_rule) dX12_rule_131 rfl rfl h
          · have h := h.2 hc64
            refine r_aload_n (y := m12_rule) dX12_rule_81 rfl rfl ?_
            refine r_iload_n (y := m12_rule) dX12_rule_82 rfl rfl ?_
            refine r_iload (y := m12_rule) dX12_rule_83 rfl ?_
            refine r_callV (y := m12_rule) (As := [(.int a2), (.int x63)]) (b := 668) (ci := 12) dX12_rule_85 rfl k12_patternNames lm_X12_187 rfl ⟨by decide, by decide⟩ (so_668 hm62) (by decide) rfl (Nat.le_of_ble_eq_true rfl) (C.mono h ?_)
            rintro _ m70 ⟨x72, rfl, hm71, h⟩
            refine ⟨_, rfl, ?_⟩
            refine r_goto (y := m12_rule) (tgt := 93) dX12_rule_88 (by decide) ?_
            refine r_istore (y := m12_rule) (L' := [some (.ref 668), some (.int a0), some (.int a1), some (.int a2), some (.int a3), some (.int (mI m40 669 (Int32.toNatClampNeg a0))), some (.int x72), none]) dX12_rule_93 (Nat.le_of_ble_eq_true rfl) rfl ?_
            refine r_aload_n (y := m12_rule) dX12_rule_95 rfl rfl ?_
            refine r_iload (y := m12_rule) dX12_rule_96 rfl ?_
            refine r_iconst (y := m12_rule) (v := (-1)) dX12_rule_98 (by decide) ?_
            refine r_icmp_ne (y := m12_rule) (tgt := 106) dX12_rule_99 (by decide) (fun hc73 => ?_) (fun hc73 => ?_)
            · have h := h.1 hc73
              refine r_aload_n (y := m12_rule) dX12_rule_106 rfl rfl ?_
              refine g_X12_191 (y := m12_rule) rfl dX12_rule_107 hm71 ?_
              refine r_bipush (y := m12_rule) (v := 24) dX12_rule_110 (by decide) ?_
              refine r_icmp_ne (y := m12_rule) (tgt := 119) dX12_rule_112 (by decide) (fun hc74 => ?_) (fun hc74 => ?_)
              · have h := h.1 hc74
                refine r_iconst (y := m12_rule) (v := 0) dX12_rule_119 (by decide) ?_
                refine p_X12_147 (y := m12_rule) rfl dX12_rule_120 hm71 ?_
                refine r_aload_n (y := m12_rule) dX12_rule_123 rfl rfl ?_
                refine g_X12_147 (y := m12_rule) rfl dX12_rule_124 (St.i hm71) ?_
                refine V.top (b := 0) (by first | rfl | simp [mI_set, mI_setR]) ?_
                refine r_if_le (y := m12_rule) (tgt := 132) dX12_rule_127 (by decide) (fun hc75 => ?_) (fun hc75 => ?_)
                · have h := h.1 hc75
                  refine r_iconst (y := m12_rule) (v := 0) dX12_rule_132 (by decide) ?_
                  refine r_istore (y := m12_rule) (L' := [some (.ref 668), some (.int a0), some (.int a1), some (.int a2), some (.int a3), some (.int (mI m40 669 (Int32.toNatClampNeg a0))), some (.int x72), some (.int 0)]) dX12_rule_133 (Nat.le_of_ble_eq_true rfl) rfl ?_
                  exact h
                · have h := h.2 hc75
                  refine r_iconst (y := m12_rule) (v := 0) dX12_rule_130 (by decide) ?_
                  exact r_iret (y := m12_rule) dX12_rule_131 rfl rfl h
              · have h := h.2 hc74
                refine r_iconst (y := m12_rule) (v := 3) dX12_rule_115 (by decide) ?_
                refine r_goto (y := m12_rule) (tgt := 120) dX12_rule_116 (by decide) ?_
                refine p_X12_147 (y := m12_rule) rfl dX12_rule_120 hm71 ?_
                refine r_aload_n (y := m12_rule) dX12_rule_123 rfl rfl ?_
                refine g_X12_147 (y := m12_rule) rfl dX12_rule_124 (St.i hm71) ?_
                refine V.top (b := 3) (by first | rfl | simp [mI_set, mI_setR]) ?_
                refine r_if_le (y := m12_rule) (tgt := 132) dX12_rule_127 (by decide) (fun hc76 => ?_) (fun hc76 => ?_)
                · have h := h.1 hc76
                  refine r_iconst (y := m12_rule) (v := 0) dX12_rule_132 (by decide) ?_
                  refine r_istore (y := m12_rule) (L' := [some (.ref 668), some (.int a0), some (.int a1), some (.int a2), some (.int a3), some (.int (mI m40 669 (Int32.toNatClampNeg a0))), some (.int x72), some (.int 0)]) dX12_rule_133 (Nat.le_of_ble_eq_true rfl) rfl ?_
                  exact h
                · have h := h.2 hc76
                  refine r_iconst (y := m12_rule) (v := 0) dX12_rule_130 (by decide) ?_
                  exact r_iret (y := m12_rule) dX12_rule_131 rfl rfl h
            · have h := h.2 hc73
              refine r_iconst (y := m12_rule) (v := 2) dX12_rule_102 (by decide) ?_
              refine r_goto (y := m12_rule) (tgt := 120) dX12_rule_103 (by decide) ?_
              refine p_X12_147 (y := m12_rule) rfl dX12_rule_120 hm71 ?_
              refine r_aload_n (y := m12_rule) dX12_rule_123 rfl rfl ?_
              refine g_X12_147 (y := m12_rule) rfl dX12_rule_124 (St.i hm71) ?_
              refine V.top (b := 2) (by first | rfl | simp [mI_set, mI_setR]) ?_
              refine r_if_le (y := m12_rule) (tgt := 132) dX12_rule_127 (by decide) (fun hc77 => ?_) (fun hc77 => ?_)
              · have h := h.1 hc77
                refine r_iconst (y := m12_rule) (v := 0) dX12_rule_132 (by decide) ?_
                refine r_istore (y := m12_rule) (L' := [some (.ref 668), some (.int a0), some (.int a1), some (.int a2), some (.int a3), some (.int (mI m40 669 (Int32.toNatClampNeg a0))), some (.int x72), some (.int 0)]) dX12_rule_133 (Nat.le_of_ble_eq_true rfl) rfl ?_
                exact h
              · have h := h.2 hc77
                refine r_iconst (y := m12_rule) (v := 0) dX12_rule_130 (by decide) ?_
                exact r_iret (y := m12_rule) dX12_rule_131 rfl rfl h
      · have h := h.2 hc44
        refine r_iconst (y := m12_rule) (v := 0) dX12_rule_48 (by decide) ?_
        exact r_iret (y := m12_rule) dX12_rule_49 rfl rfl h
    · have h := h.2 hc43
      refine r_aload_n (y := m12_rule) dX12_rule_24 rfl rfl ?_
      refine r_iload (y := m12_rule) dX12_rule_25 rfl ?_
      refine r_callV (y := m12_rule) (As := [(.int a3)]) (b := 668) (ci := 12) dX12_rule_27 rfl k12_isNode lm_X12_169 rfl ⟨by decide, by decide⟩ (so_668 hm41) (by decide) rfl (Nat.le_of_ble_eq_true rfl) (C.mono h ?_)
      rintro _ m78 ⟨x80, rfl, hm79, h⟩
      refine ⟨_, rfl, ?_⟩
      refine r_if_ne (y := m12_rule) (tgt := 37) dX12_rule_30 (by decide) (fun hc81 => ?_) (fun hc81 => ?_)
      · have h := h.1 hc81
        refine r_iconst (y := m12_rule) (v := 0) dX12_rule_37 (by decide) ?_
        refine p_X12_147 (y := m12_rule) rfl dX12_rule_38 hm79 ?_
        refine r_aload_n (y := m12_rule) dX12_rule_41 rfl rfl ?_
        refine g_X12_147 (y := m12_rule) rfl dX12_rule_42 (St.i hm79) ?_
        refine V.top (b := 0) (by first | rfl | simp [mI_set, mI_setR]) ?_
        refine r_if_le (y := m12_rule) (tgt := 50) dX12_rule_45 (by decide) (fun hc82 => ?_) (fun hc82 => ?_)
        · have h := h.1 hc82
          refine r_aload_n (y := m12_rule) dX12_rule_50 rfl rfl ?_
          refine g_X12_7 (y := m12_rule) rfl dX12_rule_51 (St.i hm79) ?_
          refine r_iload_n (y := m12_rule) dX12_rule_54 rfl rfl ?_
          obtain ⟨hb83, h⟩ := h
          refine r_iald (y := m12_rule) (n := 8) dX12_rule_55 (sa_669 (St.i hm79)) hb83 ?_
          refine V.top (b := (mI m78 669 (Int32.toNatClampNeg a0))) (by first | rfl | simp [mI_set, mI_setR]) ?_
          refine r_istore (y := m12_rule) (L' := [some (.ref 668), some (.int a0), some (.int a1), some (.int a2), some (.int a3), some (.int (mI m78 669 (Int32.toNatClampNeg a0))), none, none]) dX12_rule_56 (Nat.le_of_ble_eq_true rfl) rfl ?_
          refine r_iload (y := m12_rule) dX12_rule_58 rfl ?_
          refine r_if_le (y := m12_rule) (tgt := 72) dX12_rule_60 (by decide) (fun hc84 => ?_) (fun hc84 => ?_)
          · have h := h.1 hc84
            refine r_iconst (y := m12_rule) (v := 0) dX12_rule_72 (by decide) ?_
            refine r_istore (y := m12_rule) (L' := [some (.ref 668), some (.int a0), some (.int a1), some (.int a2), some (.int a3), some (.int (mI m78 669 (Int32.toNatClampNeg a0))), some (.int 0), none]) dX12_rule_73 (Nat.le_of_ble_eq_true rfl) rfl ?_
            refine r_iload (y := m12_rule) dX12_rule_75 rfl ?_
            refine r_iconst (y := m12_rule) (v := 1) dX12_rule_77 (by decide) ?_
            refine r_icmp_le (y := m12_rule) (tgt := 91) dX12_rule_78 (by decide) (fun hc85 => ?_) (fun hc85 => ?_)
            · have h := h.1 hc85
              refine r_iload (y := m12_rule) dX12_rule_91 rfl ?_
              refine r_istore (y := m12_rule) (L' := [some (.ref 668), some (.int a0), some (.int a1), some (.int a2), some (.int a3), some (.int (mI m78 669 (Int32.toNatClampNeg a0))), some (.int 0), none]) dX12_rule_93 (Nat.le_of_ble_eq_true rfl) rfl ?_
              refine r_aload_n (y := m12_rule) dX12_rule_95 rfl rfl ?_
              refine r_iload (y := m12_rule) dX12_rule_96 rfl ?_
              refine r_iconst (y := m12_rule) (v := (-1)) dX12_rule_98 (by decide) ?_
              refine r_icmp_ne (y := m12_rule) (tgt := 106) dX12_rule_99 (by decide) (fun hc86 => ?_) (fun hc86 => ?_)
              · have h := h.1 hc86
                refine r_aload_n (y := m12_rule) dX12_rule_106 rfl rfl ?_
                refine g_X12_191 (y := m12_rule) rfl dX12_rule_107 (St.i hm79) ?_
                refine V.top (b := (mI m78 668 9)) (by first | rfl | simp [mI_set, mI_setR]) ?_
                refine r_bipush (y := m12_rule) (v := 24) dX12_rule_110 (by decide) ?_
                refine r_icmp_ne (y := m12_rule) (tgt := 119) dX12_rule_112 (by decide) (fun hc87 => ?_) (fun hc87 => ?_)
                · have h := h.1 hc87
                  refine r_iconst (y := m12_rule) (v := 0) dX12_rule_119 (by decide) ?_
                  refine p_X12_147 (y := m12_rule) rfl dX12_rule_120 (St.i hm79) ?_
                  refine r_aload_n (y := m12_rule) dX12_rule_123 rfl rfl ?_
                  refine g_X12_147 (y := m12_rule) rfl dX12_rule_124 (St.i (St.i hm79)) ?_
                  refine V.top (b := 0) (by first | rfl | simp [mI_set, mI_setR]) ?_
                  refine r_if_le (y := m12_rule) (tgt := 132) dX12_rule_127 (by decide) (fun hc88 => ?_) (fun hc88 => ?_)
                  · have h := h.1 hc88
                    refine r_iconst (y := m12_rule) (v := 0) dX12_rule_132 (by decide) ?_
                    refine r_istore (y := m12_rule) (L' := [some (.ref 668), some (.int a0), some (.int a1), some (.int a2), some (.int a3), some (.int (mI m78 669 (Int32.toNatClampNeg a0))), some (.int 0), some (.int 0)]) dX12_rule_133 (Nat.le_of_ble_eq_true rfl) rfl ?_
                    exact h
                  · have h := h.2 hc88
                    refine r_iconst (y := m12_rule) (v := 0) dX12_rule_130 (by decide) ?_
                    exact r_iret (y := m12_rule) dX12_rule_131 rfl rfl h
                · have h := h.2 hc87
                  refine r_iconst (y := m12_rule) (v := 3) dX12_rule_115 (by decide) ?_
                  refine r_goto (y := m12_rule) (tgt := 120) dX12_rule_116 (by decide) ?_
                  refine p_X12_147 (y := m12_rule) rfl dX12_rule_120 (St.i hm79) ?_
                  refine r_aload_n (y := m12_rule) dX12_rule_123 rfl rfl ?_
                  refine g_X12_147 (y := m12_rule) rfl dX12_rule_124 (St.i (St.i hm79)) ?_
                  refine V.top (b := 3) (by first | rfl | simp [mI_set, mI_setR]) ?_
                  refine r_if_le (y := m12_rule) (tgt := 132) dX12_rule_127 (by decide) (fun hc89 => ?_) (fun hc89 => ?_)
                  · have h := h.1 hc89
                    refine r_iconst (y := m12_rule) (v := 0) dX12_rule_132 (by decide) ?_
                    refine r_istore (y := m12_rule) (L' := [some (.ref 668), some (.int a0), some (.int a1), some (.int a2), some (.int a3), some (.int (mI m78 669 (Int32.toNatClampNeg a0))), some (.int 0), some (.int 0)]) dX12_rule_133 (Nat.le_of_ble_eq_true rfl) rfl ?_
                    exact h
                  · have h := h.2 hc89
                    refine r_iconst (y := m12_rule) (v := 0) dX12_rule_130 (by decide) ?_
                    exact r_iret (y := m12_rule) dX12_rule_131 rfl rfl h
              · have h := h.2 hc86
                refine r_iconst (y := m12_rule) (v := 2) dX12_rule_102 (by decide) ?_
                refine r_goto (y := m12_rule) (tgt := 120) dX12_rule_103 (by decide) ?_
                refine p_X12_147 (y := m12_rule) rfl dX12_rule_120 (St.i hm79) ?_
                refine r_aload_n (y := m12_rule) dX12_rule_123 rfl rfl ?_
                refine g_X12_147 (y := m12_rule) rfl dX12_rule_124 (St.i (St.i hm79)) ?_
                refine V.top (b := 2) (by first | rfl | simp [mI_set, mI_setR]) ?_
                refine r_if_le (y := m12_rule) (tgt := 132) dX12_rule_127 (by decide) (fun hc90 => ?_) (fun hc90 => ?_)
                · have h := h.1 hc90
                  refine r_iconst (y := m12_rule) (v := 0) dX12_rule_132 (by decide) ?_
                  refine r_istore (y := m12_rule) (L' := [some (.ref 668), some (.int a0), some (.int a1), some (.int a2), some (.int a3), some (.int (mI m78 669 (Int32.toNatClampNeg a0))), some (.int 0), some (.int 0)]) dX12_rule_133 (Nat.le_of_ble_eq_true rfl) rfl ?_
                  exact h
                · have h := h.2 hc90
                  refine r_iconst (y := m12_rule) (v := 0) dX12_rule_130 (by decide) ?_
                  exact r_iret (y := m12_rule) dX12_rule_131 rfl rfl h
            · have h := h.2 hc85
              refine r_aload_n (y := m12_rule) dX12_rule_81 rfl rfl ?_
              refine r_iload_n (y := m12_rule) dX12_rule_82 rfl rfl ?_
              refine r_iload (y := m12_rule) dX12_rule_83 rfl ?_
              refine r_callV (y := m12_rule) (As := [(.int a2), (.int 0)]) (b := 668) (ci := 12) dX12_rule_85 rfl k12_patternNames lm_X12_187 rfl ⟨by decide, by decide⟩ (so_668 (St.i hm79)) (by decide) rfl (Nat.le_of_ble_eq_true rfl) (C.mono h ?_)
              rintro _ m91 ⟨x93, rfl, hm92, h⟩
              refine ⟨_, rfl, ?_⟩
              refine r_goto (y := m12_rule) (tgt := 93) dX12_rule_88 (by decide) ?_
              refine r_istore (y := m12_rule) (L' := [some (.ref 668), some (.int a0), some (.int a1), some (.int a2), some (.int a3), some (.int (mI m78 669 (Int32.toNatClampNeg a0))), some (.int x93), none]) dX12_rule_93 (Nat.le_of_ble_eq_true rfl) rfl ?_
              refine r_aload_n (y := m12_rule) dX12_rule_95 rfl rfl ?_
              refine r_iload (y := m12_rule) dX12_rule_96 rfl ?_
              refine r_iconst (y := m12_rule) (v := (-1)) dX12_rule_98 (by decide) ?_
              refine r_icmp_ne (y := m12_rule) (tgt := 106) dX12_rule_99 (by decide) (fun hc94 => ?_) (fun hc94 => ?_)
              · have h := h.1 hc94
                refine r_aload_n (y := m12_rule) dX12_rule_106 rfl rfl ?_
                refine g_X12_191 (y := m12_rule) rfl dX12_rule_107 hm92 ?_
                refine r_bipush (y := m12_rule) (v := 24) dX12_rule_110 (by decide) ?_
                refine r_icmp_ne (y := m12_rule) (tgt := 119) dX12_rule_112 (by decide) (fun hc95 => ?_) (fun hc95 => ?_)
                · have h := h.1 hc95
                  refine r_iconst (y := m12_rule) (v := 0) dX12_rule_119 (by decide) ?_
                  refine p_X12_147 (y := m12_rule) rfl dX12_rule_120 hm92 ?_
                  refine r_aload_n (y := m12_rule) dX12_rule_123 rfl rfl ?_
                  refine g_X12_147 (y := m12_rule) rfl dX12_rule_124 (St.i hm92) ?_
                  refine V.top (b := 0) (by first | rfl | simp [mI_set, mI_setR]) ?_
                  refine r_if_le (y := m12_rule) (tgt := 132) dX12_rule_127 (by decide) (fun hc96 => ?_) (fun hc96 => ?_)
                  · have h := h.1 hc96
                    refine r_iconst (y := m12_rule) (v := 0) dX12_rule_132 (by decide) ?_
                    refine r_istore (y := m12_rule) (L' := [some (.ref 668), some (.int a0), some (.int a1), some (.int a2), some (.int a3), some (.int (mI m78 669 (Int32.toNatClampNeg a0))), some (.int x93), some (.int 0)]) dX12_rule_133 (Nat.le_of_ble_eq_true rfl) rfl ?_
                    exact h
                  · have h := h.2 hc96
                    refine r_iconst (y := m12_rule) (v := 0) dX12_rule_130 (by decide) ?_
                    exact r_iret (y := m12_rule) dX12_rule_131 rfl rfl h
                · have h := h.2 hc95
                  refine r_iconst (y := m12_rule) (v := 3) dX12_rule_115 (by decide) ?_
                  refine r_goto (y := m12_rule) (tgt := 120) dX12_rule_116 (by decide) ?_
                  refine p_X12_147 (y := m12_rule) rfl dX12_rule_120 hm92 ?_
                  refine r_aload_n (y := m12_rule) dX12_rule_123 rfl rfl ?_
                  refine g_X12_147 (y := m12_rule) rfl dX12_rule_124 (St.i hm92) ?_
                  refine V.top (b := 3) (by first | rfl | simp [mI_set, mI_setR]) ?_
                  refine r_if_le (y := m12_rule) (tgt := 132) dX12_rule_127 (by decide) (fun hc97 => ?_) (fun hc97 => ?_)
                  · have h := h.1 hc97
                    refine r_iconst (y := m12_rule) (v := 0) dX12_rule_132 (by decide) ?_
                    refine r_istore (y := m12_rule) (L' := [some (.ref 668), some (.int a0), some (.int a1), some (.int a2), some (.int a3), some (.int (mI m78 669 (Int32.toNatClampNeg a0))), some (.int x93), some (.int 0)]) dX12_rule_133 (Nat.le_of_ble_eq_true rfl) rfl ?_
                    exact h
                  · have h := h.2 hc97
                    refine r_iconst (y := m12_rule) (v := 0) dX12_rule_130 (by decide) ?_
                    exact r_iret (y := m12_rule) dX12_rule_131 rfl rfl h
              · have h := h.2 hc94
                refine r_iconst (y := m12_rule) (v := 2) dX12_rule_102 (by decide) ?_
                refine r_goto (y := m12_rule) (tgt := 120) dX12_rule_103 (by decide) ?_
                refine p_X12_147 (y := m12_rule) rfl dX12_rule_120 hm92 ?_
                refine r_aload_n (y := m12_rule) dX12_rule_123 rfl rfl ?_
                refine g_X12_147 (y := m12_rule) rfl dX12_rule_124 (St.i hm92) ?_
                refine V.top (b := 2) (by first | rfl | simp [mI_set, mI_setR]) ?_
                refine r_if_le (y := m12_rule) (tgt := 132) dX12_rule_127 (by decide) (fun hc98 => ?_) (fun hc98 => ?_)
                · have h := h.1 hc98
                  refine r_iconst (y := m12_rule) (v := 0) dX12_rule_132 (by decide) ?_
                  refine r_istore (y := m12_rule) (L' := [some (.ref 668), some (.int a0), some (.int a1), some (.int a2), some (.int a3), some (.int (mI m78 669 (Int32.toNatClampNeg a0))), some (.int x93), some (.int 0)]) dX12_rule_133 (Nat.le_of_ble_eq_true rfl) rfl ?_
                  exact h
                · have h := h.2 hc98
                  refine r_iconst (y := m12_rule) (v := 0) dX12_rule_130 (by decide) ?_
                  exact r_iret (y := m12_rule) dX12_rule_131 rfl rfl h
          · have h := h.2 hc84
            refine r_aload_n (y := m12_rule) dX12_rule_63 rfl rfl ?_
            refine r_iload_n (y := m12_rule) dX12_rule_64 rfl rfl ?_
            refine r_iconst (y := m12_rule) (v := 0) dX12_rule_65 (by decide) ?_
            refine r_callV (y := m12_rule) (As := [(.int a1), (.int 0)]) (b := 668) (ci := 12) dX12_rule_66 rfl k12_patternNames lm_X12_187 rfl ⟨by decide, by decide⟩ (so_668 (St.i hm79)) (by decide) rfl (Nat.le_of_ble_eq_true rfl) (C.mono h ?_)
            rintro _ m99 ⟨x101, rfl, hm100, h⟩
            refine ⟨_, rfl, ?_⟩
            refine r_goto (y := m12_rule) (tgt := 73) dX12_rule_69 (by decide) ?_
            refine r_istore (y := m12_rule) (L' := [some (.ref 668), some (.int a0), some (.int a1), some (.int a2), some (.int a3), some (.int (mI m78 669 (Int32.toNatClampNeg a0))), some (.int x101), none]) dX12_rule_73 (Nat.le_of_ble_eq_true rfl) rfl ?_
            refine r_iload (y := m12_rule) dX12_rule_75 rfl ?_
            refine r_iconst (y := m12_rule) (v := 1) dX12_rule_77 (by decide) ?_
            refine r_icmp_le (y := m12_rule) (tgt := 91) dX12_rule_78 (by decide) (fun hc102 => ?_) (fun hc102 => ?_)
            · have h := h.1 hc102
              refine r_iload (y := m12_rule) dX12_rule_91 rfl ?_
              refine r_istore (y := m12_rule) (L' := [some (.ref 668), some (.int a0), some (.int a1), some (.int a2), some (.int a3), some (.int (mI m78 669 (Int32.toNatClampNeg a0))), some (.int x101), none]) dX12_rule_93 (Nat.le_of_ble_eq_true rfl) rfl ?_
              refine r_aload_n (y := m12_rule) dX12_rule_95 rfl rfl ?_
              refine r_iload (y := m12_rule) dX12_rule_96 rfl ?_
              refine r_iconst (y := m12_rule) (v := (-1)) dX12_rule_98 (by decide) ?_
              refine r_icmp_ne (y := m12_rule) (tgt := 106) dX12_rule_99 (by decide) (fun hc103 => ?_) (fun hc103 => ?_)
              · have h := h.1 hc103
                refine r_aload_n (y := m12_rule) dX12_rule_106 rfl rfl ?_
                refine g_X12_191 (y := m12_rule) rfl dX12_rule_107 hm100 ?_
                refine r_bipush (y := m12_rule) (v := 24) dX12_rule_110 (by decide) ?_
                refine r_icmp_ne (y := m12_rule) (tgt := 119) dX12_rule_112 (by decide) (fun hc104 => ?_) (fun hc104 => ?_)
                · have h := h.1 hc104
                  refine r_iconst (y := m12_rule) (v := 0) dX12_rule_119 (by decide) ?_
                  refine p_X12_147 (y := m12_rule) rfl dX12_rule_120 hm100 ?_
                  refine r_aload_n (y := m12_rule) dX12_rule_123 rfl rfl ?_
                  refine g_X12_147 (y := m12_rule) rfl dX12_rule_124 (St.i hm100) ?_
                  refine V.top (b := 0) (by first | rfl | simp [mI_set, mI_setR]) ?_
                  refine r_if_le (y := m12_rule) (tgt := 132) dX12_rule_127 (by decide) (fun hc105 => ?_) (fun hc105 => ?_)
                  · have h := h.1 hc105
                    refine r_iconst (y := m12_rule) (v := 0) dX12_rule_132 (by decide) ?_
                    refine r_istore (y := m12_rule) (L' := [some (.ref 668), some (.int a0), some (.int a1), some (.int a2), some (.int a3), some (.int (mI m78 669 (Int32.toNatClampNeg a0))), some (.int x101), some (.int 0)]) dX12_rule_133 (Nat.le_of_ble_eq_true rfl) rfl ?_
                    exact h
                  · have h := h.2 hc105
                    refine r_iconst (y := m12_rule) (v := 0) dX12_rule_130 (by decide) ?_
                    exact r_iret (y := m12_rule) dX12_rule_131 rfl rfl h
                · have h := h.2 hc104
                  refine r_iconst (y := m12_rule) (v := 3) dX12_rule_115 (by decide) ?_
                  refine r_goto (y := m12_rule) (tgt := 120) dX12_rule_116 (by decide) ?_
                  refine p_X12_147 (y := m12_rule) rfl dX12_rule_120 hm100 ?_
                  refine r_aload_n (y := m12_rule) dX12_rule_123 rfl rfl ?_
                  refine g_X12_147 (y := m12_rule) rfl dX12_rule_124 (St.i hm100) ?_
                  refine V.top (b := 3) (by first | rfl | simp [mI_set, mI_setR]) ?_
                  refine r_if_le (y := m12_rule) (tgt := 132) dX12_rule_127 (by decide) (fun hc106 => ?_) (fun hc106 => ?_)
                  · have h := h.1 hc106
                    refine r_iconst (y := m12_rule) (v := 0) dX12_rule_132 (by decide) ?_
                    refine r_istore (y := m12_rule) (L' := [some (.ref 668), some (.int a0), some (.int a1), some (.int a2), some (.int a3), some (.int (mI m78 669 (Int32.toNatClampNeg a0))), some (.int x101), some (.int 0)]) dX12_rule_133 (Nat.le_of_ble_eq_true rfl) rfl ?_
                    exact h
                  · have h := h.2 hc106
                    refine r_iconst (y := m12_rule) (v := 0) dX12_rule_130 (by decide) ?_
                    exact r_iret (y := m12_rule) dX12_rule_131 rfl rfl h
              · have h := h.2 hc103
                refine r_iconst (y := m12_rule) (v := 2) dX12_rule_102 (by decide) ?_
                refine r_goto (y := m12_rule) (tgt := 120) dX12_rule_103 (by decide) ?_
                refine p_X12_147 (y := m12_rule) rfl dX12_rule_120 hm100 ?_
                refine r_aload_n (y := m12_rule) dX12_rule_123 rfl rfl ?_
                refine g_X12_147 (y := m12_rule) rfl dX12_rule_124 (St.i hm100) ?_
                refine V.top (b := 2) (by first | rfl | simp [mI_set, mI_setR]) ?_
                refine r_if_le (y := m12_rule) (tgt := 132) dX12_rule_127 (by decide) (fun hc107 => ?_) (fun hc107 => ?_)
                · have h := h.1 hc107
                  refine r_iconst (y := m12_rule) (v := 0) dX12_rule_132 (by decide) ?_
                  refine r_istore (y := m12_rule) (L' := [some (.ref 668), some (.int a0), some (.int a1), some (.int a2), some (.int a3), some (.int (mI m78 669 (Int32.toNatClampNeg a0))), some (.int x101), some (.int 0)]) dX12_rule_133 (Nat.le_of_ble_eq_true rfl) rfl ?_
                  exact h
                · have h := h.2 hc107
                  refine r_iconst (y := m12_rule) (v := 0) dX12_rule_130 (by decide) ?_
                  exact r_iret (y := m12_rule) dX12_rule_131 rfl rfl h
            · have h := h.2 hc102
              refine r_aload_n (y := m12_rule) dX12_rule_81 rfl rfl ?_
              refine r_iload_n (y := m12_rule) dX12_rule_82 rfl rfl ?_
              refine r_iload (y := m12_rule) dX12_rule_83 rfl ?_
              refine r_callV (y := m12_rule) (As := [(.int a2), (.int x101)]) (b := 668) (ci := 12) dX12_rule_85 rfl k12_patternNames lm_X12_187 rfl ⟨by decide, by decide⟩ (so_668 hm100) (by decide) rfl (Nat.le_of_ble_eq_true rfl) (C.mono h ?_)
              rintro _ m108 ⟨x110, rfl, hm109, h⟩
              refine ⟨_, rfl, ?_⟩
              refine r_goto (y := m12_rule) (tgt := 93) dX12_rule_88 (by decide) ?_
              refine r_istore (y := m12_rule) (L' := [some (.ref 668), some (.int a0), some (.int a1), some (.int a2), some (.int a3), some (.int (mI m78 669 (Int32.toNatClampNeg a0))), some (.int x110), none]) dX12_rule_93 (Nat.le_of_ble_eq_true rfl) rfl ?_
              refine r_aload_n (y := m12_rule) dX12_rule_95 rfl rfl ?_
              refine r_iload (y := m12_rule) dX12_rule_96 rfl ?_
              refine r_iconst (y := m12_rule) (v := (-1)) dX12_rule_98 (by decide) ?_
              refine r_icmp_ne (y := m12_rule) (tgt := 106) dX12_rule_99 (by decide) (fun hc111 => ?_) (fun hc111 => ?_)
              · have h := h.1 hc111
                refine r_aload_n (y := m12_rule) dX12_rule_106 rfl rfl ?_
                refine g_X12_191 (y := m12_rule) rfl dX12_rule_107 hm109 ?_
                refine r_bipush (y := m12_rule) (v := 24) dX12_rule_110 (by decide) ?_
                refine r_icmp_ne (y := m12_rule) (tgt := 119) dX12_rule_112 (by decide) (fun hc112 => ?_) (fun hc112 => ?_)
                · have h := h.1 hc112
                  refine r_iconst (y := m12_rule) (v := 0) dX12_rule_119 (by decide) ?_
                  refine p_X12_147 (y := m12_rule) rfl dX12_rule_120 hm109 ?_
                  refine r_aload_n (y := m12_rule) dX12_rule_123 rfl rfl ?_
                  refine g_X12_147 (y := m12_rule) rfl dX12_rule_124 (St.i hm109) ?_
                  refine V.top (b := 0) (by first | rfl | simp [mI_set, mI_setR]) ?_
                  refine r_if_le (y := m12_rule) (tgt := 132) dX12_rule_127 (by decide) (fun hc113 => ?_) (fun hc113 => ?_)
                  · have h := h.1 hc113
                    refine r_iconst (y := m12_rule) (v := 0) dX12_rule_132 (by decide) ?_
                    refine r_istore (y := m12_rule) (L' := [some (.ref 668), some (.int a0), some (.int a1), some (.int a2), some (.int a3), some (.int (mI m78 669 (Int32.toNatClampNeg a0))), some (.int x110), some (.int 0)]) dX12_rule_133 (Nat.le_of_ble_eq_true rfl) rfl ?_
                    exact h
                  · have h := h.2 hc113
                    refine r_iconst (y := m12_rule) (v := 0) dX12_rule_130 (by decide) ?_
                    exact r_iret (y := m12_rule) dX12_rule_131 rfl rfl h
                · have h := h.2 hc112
                  refine r_iconst (y := m12_rule) (v := 3) dX12_rule_115 (by decide) ?_
                  refine r_goto (y := m12_rule) (tgt := 120) dX12_rule_116 (by decide) ?_
                  refine p_X12_147 (y := m12_rule) rfl dX12_rule_120 hm109 ?_
                  refine r_aload_n (y := m12_rule) dX12_rule_123 rfl rfl ?_
                  refine g_X12_147 (y := m12_rule) rfl dX12_rule_124 (St.i hm109) ?_
                  refine V.top (b := 3) (by first | rfl | simp [mI_set, mI_setR]) ?_
                  refine r_if_le (y := m12_rule) (tgt := 132) dX12_rule_127 (by decide) (fun hc114 => ?_) (fun hc114 => ?_)
                  · have h := h.1 hc114
                    refine r_iconst (y := m12_rule) (v := 0) dX12_rule_132 (by decide) ?_
                    refine r_istore (y := m12_rule) (L' := [some (.ref 668), some (.int a0), some (.int a1), some (.int a2), some (.int a3), some (.int (mI m78 669 (Int32.toNatClampNeg a0))), some (.int x110), some (.int 0)]) dX12_rule_133 (Nat.le_of_ble_eq_true rfl) rfl ?_
                    exact h
                  · have h := h.2 hc114
                    refine r_iconst (y := m12_rule) (v := 0) dX12_rule_130 (by decide) ?_
                    exact r_iret (y := m12_rule) dX12_rule_131 rfl rfl h
              · have h := h.2 hc111
                refine r_iconst (y := m12_rule) (v := 2) dX12_rule_102 (by decide) ?_
                refine r_goto (y := m12_rule) (tgt := 120) dX12_rule_103 (by decide) ?_
                refine p_X12_147 (y := m12_rule) rfl dX12_rule_120 hm109 ?_
                refine r_aload_n (y := m12_rule) dX12_rule_123 rfl rfl ?_
                refine g_X12_147 (y := m12_rule) rfl dX12_rule_124 (St.i hm109) ?_
                refine V.top (b := 2) (by first | rfl | simp [mI_set, mI_setR]) ?_
                refine r_if_le (y := m12_rule) (tgt := 132) dX12_rule_127 (by decide) (fun hc115 => ?_) (fun hc115 => ?_)
                · have h := h.1 hc115
                  refine r_iconst (y := m12_rule) (v := 0) dX12_rule_132 (by decide) ?_
                  refine r_istore (y := m12_rule) (L' := [some (.ref 668), some (.int a0), some (.int a1), some (.int a2), some (.int a3), some (.int (mI m78 669 (Int32.toNatClampNeg a0))), some (.int x110), some (.int 0)]) dX12_rule_133 (Nat.le_of_ble_eq_true rfl) rfl ?_
                  exact h
                · have h := h.2 hc115
                  refine r_iconst (y := m12_rule) (v := 0) dX12_rule_130 (by decide) ?_
                  exact r_iret (y := m12_rule) dX12_rule_131 rfl rfl h
        · have h := h.2 hc82
          refine r_iconst (y := m12_rule) (v := 0) dX12_rule_48 (by decide) ?_
          exact r_iret (y := m12_rule) dX12_rule_49 rfl rfl h
      · have h := h.2 hc81
        refine r_iconst (y := m12_rule) (v := 1) dX12_rule_33 (by decide) ?_
        refine r_goto (y := m12_rule) (tgt := 38) dX12_rule_34 (by decide) ?_
        refine p_X12_147 (y := m12_rule) rfl dX12_rule_38 hm79 ?_
        refine r_aload_n (y := m12_rule) dX12_rule_41 rfl rfl ?_
        refine g_X12_147 (y := m12_rule) rfl dX12_rule_42 (St.i hm79) ?_
        refine V.top (b := 1) (by first | rfl | simp [mI_set, mI_setR]) ?_
        refine r_if_le (y := m12_rule) (tgt := 50) dX12_rule_45 (by decide) (fun hc116 => ?_) (fun hc116 => ?_)
        · have h := h.1 hc116
          refine r_aload_n (y := m12_rule) dX12_rule_50 rfl rfl ?_
          refine g_X12_7 (y := m12_rule) rfl dX12_rule_51 (St.i hm79) ?_
          refine r_iload_n (y := m12_rule) dX12_rule_54 rfl rfl ?_
          obtain ⟨hb117, h⟩ := h
          refine r_iald (y := m12_rule) (n := 8) dX12_rule_55 (sa_669 (St.i hm79)) hb117 ?_
          refine V.top (b := (mI m78 669 (Int32.toNatClampNeg a0))) (by first | rfl | simp [mI_set, mI_setR]) ?_
          refine r_istore (y := m12_rule) (L' := [some (.ref 668), some (.int a0), some (.int a1), some (.int a2), some (.int a3), some (.int (mI m78 669 (Int32.toNatClampNeg a0))), none, none]) dX12_rule_56 (Nat.le_of_ble_eq_true rfl) rfl ?_
          refine r_iload (y := m12_rule) dX12_rule_58 rfl ?_
          refine r_if_le (y := m12_rule) (tgt := 72) dX12_rule_60 (by decide) (fun hc118 => ?_) (fun hc118 => ?_)
          · have h := h.1 hc118
            refine r_iconst (y := m12_rule) (v := 0) dX12_rule_72 (by decide) ?_
            refine r_istore (y := m12_rule) (L' := [some (.ref 668), some (.int a0), some (.int a1), some (.int a2), some (.int a3), some (.int (mI m78 669 (Int32.toNatClampNeg a0))), some (.int 0), none]) dX12_rule_73 (Nat.le_of_ble_eq_true rfl) rfl ?_
            refine r_iload (y := m12_rule) dX12_rule_75 rfl ?_
            refine r_iconst (y := m12_rule) (v := 1) dX12_rule_77 (by decide) ?_
            refine r_icmp_le (y := m12_rule) (tgt := 91) dX12_rule_78 (by decide) (fun hc119 => ?_) (fun hc119 => ?_)
            · have h := h.1 hc119
              refine r_iload (y := m12_rule) dX12_rule_91 rfl ?_
              refine r_istore (y := m12_rule) (L' := [some (.ref 668), some (.int a0), some (.int a1), some (.int a2), some (.int a3), some (.int (mI m78 669 (Int32.toNatClampNeg a0))), some (.int 0), none]) dX12_rule_93 (Nat.le_of_ble_eq_true rfl) rfl ?_
              refine r_aload_n (y := m12_rule) dX12_rule_95 rfl rfl ?_
              refine r_iload (y := m12_rule) dX12_rule_96 rfl ?_
              refine r_iconst (y := m12_rule) (v := (-1)) dX12_rule_98 (by decide) ?_
              refine r_icmp_ne (y := m12_rule) (tgt := 106) dX12_rule_99 (by decide) (fun hc120 => ?_) (fun hc120 => ?_)
              · have h := h.1 hc120
                refine r_aload_n (y := m12_rule) dX12_rule_106 rfl rfl ?_
                refine g_X12_191 (y := m12_rule) rfl dX12_rule_107 (St.i hm79) ?_
                refine V.top (b := (mI m78 668 9)) (by first | rfl | simp [mI_set, mI_setR]) ?_
                refine r_bipush (y := m12_rule) (v := 24) dX12_rule_110 (by decide) ?_
                refine r_icmp_ne (y := m12_rule) (tgt := 119) dX12_rule_112 (by decide) (fun hc121 => ?_) (fun hc121 => ?_)
                · have h := h.1 hc121
                  refine r_iconst (y := m12_rule) (v := 0) dX12_rule_119 (by decide) ?_
                  refine p_X12_147 (y := m12_rule) rfl dX12_rule_120 (St.i hm79) ?_
                  refine r_aload_n (y := m12_rule) dX12_rule_123 rfl rfl ?_
                  refine g_X12_147 (y := m12_rule) rfl dX12_rule_124 (St.i (St.i hm79)) ?_
                  refine V.top (b := 0) (by first | rfl | simp [mI_set, mI_setR]) ?_
                  refine r_if_le (y := m12_rule) (tgt := 132) dX12_rule_127 (by decide) (fun hc122 => ?_) (fun hc122 => ?_)
                  · have h := h.1 hc122
                    refine r_iconst (y := m12_rule) (v := 0) dX12_rule_132 (by decide) ?_
                    refine r_istore (y := m12_rule) (L' := [some (.ref 668), some (.int a0), some (.int a1), some (.int a2), some (.int a3), some (.int (mI m78 669 (Int32.toNatClampNeg a0))), some (.int 0), some (.int 0)]) dX12_rule_133 (Nat.le_of_ble_eq_true rfl) rfl ?_
                    exact h
                  · have h := h.2 hc122
                    refine r_iconst (y := m12_rule) (v := 0) dX12_rule_130 (by decide) ?_
                    exact r_iret (y := m12_rule) dX12_rule_131 rfl rfl h
                · have h := h.2 hc121
                  refine r_iconst (y := m12_rule) (v := 3) dX12_rule_115 (by decide) ?_
                  refine r_goto (y := m12_rule) (tgt := 120) dX12_rule_116 (by decide) ?_
                  refine p_X12_147 (y := m12_rule) rfl dX12_rule_120 (St.i hm79) ?_
                  refine r_aload_n (y := m12_rule) dX12_rule_123 rfl rfl ?_
                  refine g_X12_147 (y := m12_rule) rfl dX12_rule_124 (St.i (St.i hm79)) ?_
                  refine V.top (b := 3) (by first | rfl | simp [mI_set, mI_setR]) ?_
                  refine r_if_le (y := m12_rule) (tgt := 132) dX12_rule_127 (by decide) (fun hc123 => ?_) (fun hc123 => ?_)
                  · have h := h.1 hc123
                    refine r_iconst (y := m12_rule) (v := 0) dX12_rule_132 (by decide) ?_
                    refine r_istore (y := m12_rule) (L' := [some (.ref 668), some (.int a0), some (.int a1), some (.int a2), some (.int a3), some (.int (mI m78 669 (Int32.toNatClampNeg a0))), some (.int 0), some (.int 0)]) dX12_rule_133 (Nat.le_of_ble_eq_true rfl) rfl ?_
                    exact h
                  · have h := h.2 hc123
                    refine r_iconst (y := m12_rule) (v := 0) dX12_rule_130 (by decide) ?_
                    exact r_iret (y := m12_rule) dX12_rule_131 rfl rfl h
              · have h := h.2 hc120
                refine r_iconst (y := m12_rule) (v := 2) dX12_rule_102 (by decide) ?_
                refine r_goto (y := m12_rule) (tgt := 120) dX12_rule_103 (by decide) ?_
                refine p_X12_147 (y := m12_rule) rfl dX12_rule_120 (St.i hm79) ?_
                refine r_aload_n (y := m12_rule) dX12_rule_123 rfl rfl ?_
                refine g_X12_147 (y := m12_rule) rfl dX12_rule_124 (St.i (St.i hm79)) ?_
                refine V.top (b := 2) (by first | rfl | simp [mI_set, mI_setR]) ?_
                refine r_if_le (y := m12_rule) (tgt := 132) dX12_rule_127 (by decide) (fun hc124 => ?_) (fun hc124 => ?_)
                · have h := h.1 hc124
                  refine r_iconst (y := m12_rule) (v := 0) dX12_rule_132 (by decide) ?_
                  refine r_istore (y := m12_rule) (L' := [some (.ref 668), some (.int a0), some (.int a1), some (.int a2), some (.int a3), some (.int (mI m78 669 (Int32.toNatClampNeg a0))), some (.int 0), some (.int 0)]) dX12_rule_133 (Nat.le_of_ble_eq_true rfl) rfl ?_
                  exact h
                · have h := h.2 hc124
                  refine r_iconst (y := m12_rule) (v := 0) dX12_rule_130 (by decide) ?_
                  exact r_iret (y := m12_rule) dX12_rule_131 rfl rfl h
            · have h := h.2 hc119
              refine r_aload_n (y := m12_rule) dX12_rule_81 rfl rfl ?_
              refine r_iload_n (y := m12_rule) dX12_rule_82 rfl rfl ?_
              refine r_iload (y := m12_rule) dX12_rule_83 rfl ?_
              refine r_callV (y := m12_rule) (As := [(.int a2), (.int 0)]) (b := 668) (ci := 12) dX12_rule_85 rfl k12_patternNames lm_X12_187 rfl ⟨by decide, by decide⟩ (so_668 (St.i hm79)) (by decide) rfl (Nat.le_of_ble_eq_true rfl) (C.mono h ?_)
              rintro _ m125 ⟨x127, rfl, hm126, h⟩
              refine ⟨_, rfl, ?_⟩
              refine r_goto (y := m12_rule) (tgt := 93) dX12_rule_88 (by decide) ?_
              refine r_istore (y := m12_rule) (L' := [some (.ref 668), some (.int a0), some (.int a1), some (.int a2), some (.int a3), some (.int (mI m78 669 (Int32.toNatClampNeg a0))), some (.int x127), none]) dX12_rule_93 (Nat.le_of_ble_eq_true rfl) rfl ?_
              refine r_aload_n (y := m12_rule) dX12_rule_95 rfl rfl ?_
              refine r_iload (y := m12_rule) dX12_rule_96 rfl ?_
              refine r_iconst (y := m12_rule) (v := (-1)) dX12_rule_98 (by decide) ?_
              refine r_icmp_ne (y := m12_rule) (tgt := 106) dX12_rule_99 (by decide) (fun hc128 => ?_) (fun hc128 => ?_)
              · have h := h.1 hc128
                refine r_aload_n (y := m12_rule) dX12_rule_106 rfl rfl ?_
                refine g_X12_191 (y := m12_rule) rfl dX12_rule_107 hm126 ?_
                refine r_bipush (y := m12_rule) (v := 24) dX12_rule_110 (by decide) ?_
                refine r_icmp_ne (y := m12_rule) (tgt := 119) dX12_rule_112 (by decide) (fun hc129 => ?_) (fun hc129 => ?_)
                · have h := h.1 hc129
                  refine r_iconst (y := m12_rule) (v := 0) dX12_rule_119 (by decide) ?_
                  refine p_X12_147 (y := m12_rule) rfl dX12_rule_120 hm126 ?_
                  refine r_aload_n (y := m12_rule) dX12_rule_123 rfl rfl ?_
                  refine g_X12_147 (y := m12_rule) rfl dX12_rule_124 (St.i hm126) ?_
                  refine V.top (b := 0) (by first | rfl | simp [mI_set, mI_setR]) ?_
                  refine r_if_le (y := m12_rule) (tgt := 132) dX12_rule_127 (by decide) (fun hc130 => ?_) (fun hc130 => ?_)
                  · have h := h.1 hc130
                    refine r_iconst (y := m12_rule) (v := 0) dX12_rule_132 (by decide) ?_
                    refine r_istore (y := m12_rule) (L' := [some (.ref 668), some (.int a0), some (.int a1), some (.int a2), some (.int a3), some (.int (mI m78 669 (Int32.toNatClampNeg a0))), some (.int x127), some (.int 0)]) dX12_rule_133 (Nat.le_of_ble_eq_true rfl) rfl ?_
                    exact h
                  · have h := h.2 hc130
                    refine r_iconst (y := m12_rule) (v := 0) dX12_rule_130 (by decide) ?_
                    exact r_iret (y := m12_rule) dX12_rule_131 rfl rfl h
                · have h := h.2 hc129
                  refine r_iconst (y := m12_rule) (v := 3) dX12_rule_115 (by decide) ?_
                  refine r_goto (y := m12_rule) (tgt := 120) dX12_rule_116 (by decide) ?_
                  refine p_X12_147 (y := m12_rule) rfl dX12_rule_120 hm126 ?_
                  refine r_aload_n (y := m12_rule) dX12_rule_123 rfl rfl ?_
                  refine g_X12_147 (y := m12_rule) rfl dX12_rule_124 (St.i hm126) ?_
                  refine V.top (b := 3) (by first | rfl | simp [mI_set, mI_setR]) ?_
                  refine r_if_le (y := m12_rule) (tgt := 132) dX12_rule_127 (by decide) (fun hc131 => ?_) (fun hc131 => ?_)
                  · have h := h.1 hc131
                    refine r_iconst (y := m12_rule) (v := 0) dX12_rule_132 (by decide) ?_
                    refine r_istore (y := m12_rule) (L' := [some (.ref 668), some (.int a0), some (.int a1), some (.int a2), some (.int a3), some (.int (mI m78 669 (Int32.toNatClampNeg a0))), some (.int x127), some (.int 0)]) dX12_rule_133 (Nat.le_of_ble_eq_true rfl) rfl ?_
                    exact h
                  · have h := h.2 hc131
                    refine r_iconst (y := m12_rule) (v := 0) dX12_rule_130 (by decide) ?_
                    exact r_iret (y := m12_rule) dX12_rule_131 rfl rfl h
              · have h := h.2 hc128
                refine r_iconst (y := m12_rule) (v := 2) dX12_rule_102 (by decide) ?_
                refine r_goto (y := m12_rule) (tgt := 120) dX12_rule_103 (by decide) ?_
                refine p_X12_147 (y := m12_rule) rfl dX12_rule_120 hm126 ?_
                refine r_aload_n (y := m12_rule) dX12_rule_123 rfl rfl ?_
                refine g_X12_147 (y := m12_rule) rfl dX12_rule_124 (St.i hm126) ?_
                refine V.top (b := 2) (by first | rfl | simp [mI_set, mI_setR]) ?_
                refine r_if_le (y := m12_rule) (tgt := 132) dX12_rule_127 (by decide) (fun hc132 => ?_) (fun hc132 => ?_)
                · have h := h.1 hc132
                  refine r_iconst (y := m12_rule) (v := 0) dX12_rule_132 (by decide) ?_
                  refine r_istore (y := m12_rule) (L' := [some (.ref 668), some (.int a0), some (.int a1), some (.int a2), some (.int a3), some (.int (mI m78 669 (Int32.toNatClampNeg a0))), some (.int x127), some (.int 0)]) dX12_rule_133 (Nat.le_of_ble_eq_true rfl) rfl ?_
                  exact h
                · have h := h.2 hc132
                  refine r_iconst (y := m12_rule) (v := 0) dX12_rule_130 (by decide) ?_
                  exact r_iret (y := m12_rule) dX12_rule_131 rfl rfl h
          · have h := h.2 hc118
            refine r_aload_n (y := m12_rule) dX12_rule_63 rfl rfl ?_
            refine r_iload_n (y := m12_rule) dX12_rule_64 rfl rfl ?_
            refine r_iconst (y := m12_rule) (v := 0) dX12_rule_65 (by decide) ?_
            refine r_callV (y := m12_rule) (As := [(.int a1), (.int 0)]) (b := 668) (ci := 12) dX12_rule_66 rfl k12_patternNames lm_X12_187 rfl ⟨by decide, by decide⟩ (so_668 (St.i hm79)) (by decide) rfl (Nat.le_of_ble_eq_true rfl) (C.mono h ?_)
            rintro _ m133 ⟨x135, rfl, hm134, h⟩
            refine ⟨_, rfl, ?_⟩
            refine r_goto (y := m12_rule) (tgt := 73) dX12_rule_69 (by decide) ?_
            refine r_istore (y := m12_rule) (L' := [some (.ref 668), some (.int a0), some (.int a1), some (.int a2), some (.int a3), some (.int (mI m78 669 (Int32.toNatClampNeg a0))), some (.int x135), none]) dX12_rule_73 (Nat.le_of_ble_eq_true rfl) rfl ?_
            refine r_iload (y := m12_rule) dX12_rule_75 rfl ?_
            refine r_iconst (y := m12_rule) (v := 1) dX12_rule_77 (by decide) ?_
            refine r_icmp_le (y := m12_rule) (tgt := 91) dX12_rule_78 (by decide) (fun hc136 => ?_) (fun hc136 => ?_)
            · have h := h.1 hc136
              refine r_iload (y := m12_rule) dX12_rule_91 rfl ?_
              refine r_istore (y := m12_rule) (L' := [some (.ref 668), some (.int a0), some (.int a1), some (.int a2), some (.int a3), some (.int (mI m78 669 (Int32.toNatClampNeg a0))), some (.int x135), none]) dX12_rule_93 (Nat.le_of_ble_eq_true rfl) rfl ?_
              refine r_aload_n (y := m12_rule) dX12_rule_95 rfl rfl ?_
              refine r_iload (y := m12_rule) dX12_rule_96 rfl ?_
              refine r_iconst (y := m12_rule) (v := (-1)) dX12_rule_98 (by decide) ?_
              refine r_icmp_ne (y := m12_rule) (tgt := 106) dX12_rule_99 (by decide) (fun hc137 => ?_) (fun hc137 => ?_)
              · have h := h.1 hc137
                refine r_aload_n (y := m12_rule) dX12_rule_106 rfl rfl ?_
                refine g_X12_191 (y := m12_rule) rfl dX12_rule_107 hm134 ?_
                refine r_bipush (y := m12_rule) (v := 24) dX12_rule_110 (by decide) ?_
                refine r_icmp_ne (y := m12_rule) (tgt := 119) dX12_rule_112 (by decide) (fun hc138 => ?_) (fun hc138 => ?_)
                · have h := h.1 hc138
                  refine r_iconst (y := m12_rule) (v := 0) dX12_rule_119 (by decide) ?_
                  refine p_X12_147 (y := m12_rule) rfl dX12_rule_120 hm134 ?_
                  refine r_aload_n (y := m12_rule) dX12_rule_123 rfl rfl ?_
                  refine g_X12_147 (y := m12_rule) rfl dX12_rule_124 (St.i hm134) ?_
                  refine V.top (b := 0) (by first | rfl | simp [mI_set, mI_setR]) ?_
                  refine r_if_le (y := m12_rule) (tgt := 132) dX12_rule_127 (by decide) (fun hc139 => ?_) (fun hc139 => ?_)
                  · have h := h.1 hc139
                    refine r_iconst (y := m12_rule) (v := 0) dX12_rule_132 (by decide) ?_
                    refine r_istore (y := m12_rule) (L' := [some (.ref 668), some (.int a0), some (.int a1), some (.int a2), some (.int a3), some (.int (mI m78 669 (Int32.toNatClampNeg a0))), some (.int x135), some (.int 0)]) dX12_rule_133 (Nat.le_of_ble_eq_true rfl) rfl ?_
                    exact h
                  · have h := h.2 hc139
                    refine r_iconst (y := m12_rule) (v := 0) dX12_rule_130 (by decide) ?_
                    exact r_iret (y := m12_rule) dX12_rule_131 rfl rfl h
                · have h := h.2 hc138
                  refine r_iconst (y := m12_rule) (v := 3) dX12_rule_115 (by decide) ?_
                  refine r_goto (y := m12_rule) (tgt := 120) dX12_rule_116 (by decide) ?_
                  refine p_X12_147 (y := m12_rule) rfl dX12_rule_120 hm134 ?_
                  refine r_aload_n (y := m12_rule) dX12_rule_123 rfl rfl ?_
                  refine g_X12_147 (y := m12_rule) rfl dX12_rule_124 (St.i hm134) ?_
                  refine V.top (b := 3) (by first | rfl | simp [mI_set, mI_setR]) ?_
                  refine r_if_le (y := m12_rule) (tgt := 132) dX12_rule_127 (by decide) (fun hc140 => ?_) (fun hc140 => ?_)
                  · have h := h.1 hc140
                    refine r_iconst (y := m12_rule) (v := 0) dX12_rule_132 (by decide) ?_
                    refine r_istore (y := m12_rule) (L' := [some (.ref 668), some (.int a0), some (.int a1), some (.int a2), some (.int a3), some (.int (mI m78 669 (Int32.toNatClampNeg a0))), some (.int x135), some (.int 0)]) dX12_rule_133 (Nat.le_of_ble_eq_true rfl) rfl ?_
                    exact h
                  · have h := h.2 hc140
                    refine r_iconst (y := m12_rule) (v := 0) dX12_rule_130 (by decide) ?_
                    exact r_iret (y := m12_rule) dX12_rule_131 rfl rfl h
              · have h := h.2 hc137
                refine r_iconst (y := m12_rule) (v := 2) dX12_rule_102 (by decide) ?_
                refine r_goto (y := m12_rule) (tgt := 120) dX12_rule_103 (by decide) ?_
                refine p_X12_147 (y := m12_rule) rfl dX12_rule_120 hm134 ?_
                refine r_aload_n (y := m12_rule) dX12_rule_123 rfl rfl ?_
                refine g_X12_147 (y := m12_rule) rfl dX12_rule_124 (St.i hm134) ?_
                refine V.top (b := 2) (by first | rfl | simp [mI_set, mI_setR]) ?_
                refine r_if_le (y := m12_rule) (tgt := 132) dX12_rule_127 (by decide) (fun hc141 => ?_) (fun hc141 => ?_)
                · have h := h.1 hc141
                  refine r_iconst (y := m12_rule) (v := 0) dX12_rule_132 (by decide) ?_
                  refine r_istore (y := m12_rule) (L' := [some (.ref 668), some (.int a0), some (.int a1), some (.int a2), some (.int a3), some (.int (mI m78 669 (Int32.toNatClampNeg a0))), some (.int x135), some (.int 0)]) dX12_rule_133 (Nat.le_of_ble_eq_true rfl) rfl ?_
                  exact h
                · have h := h.2 hc141
                  refine r_iconst (y := m12_rule) (v := 0) dX12_rule_130 (by decide) ?_
                  exact r_iret (y := m12_rule) dX12_rule_131 rfl rfl h
            · have h := h.2 hc136
              refine r_aload_n (y := m12_rule) dX12_rule_81 rfl rfl ?_
              refine r_iload_n (y := m12_rule) dX12_rule_82 rfl rfl ?_
              refine r_iload (y := m12_rule) dX12_rule_83 rfl ?_
              refine r_callV (y := m12_rule) (As := [(.int a2), (.int x135)]) (b := 668) (ci := 12) dX12_rule_85 rfl k12_patternNames lm_X12_187 rfl ⟨by decide, by decide⟩ (so_668 hm134) (by decide) rfl (Nat.le_of_ble_eq_true rfl) (C.mono h ?_)
              rintro _ m142 ⟨x144, rfl, hm143, h⟩
              refine ⟨_, rfl, ?_⟩
              refine r_goto (y := m12_rule) (tgt := 93) dX12_rule_88 (by decide) ?_
              refine r_istore (y := m12_rule) (L' := [some (.ref 668), some (.int a0), some (.int a1), some (.int a2), some (.int a3), some (.int (mI m78 669 (Int32.toNatClampNeg a0))), some (.int x144), none]) dX12_rule_93 (Nat.le_of_ble_eq_true rfl) rfl ?_
              refine r_aload_n (y := m12_rule) dX12_rule_95 rfl rfl ?_
              refine r_iload (y := m12_rule) dX12_rule_96 rfl ?_
              refine r_iconst (y := m12_rule) (v := (-1)) dX12_rule_98 (by decide) ?_
              refine r_icmp_ne (y := m12_rule) (tgt := 106) dX12_rule_99 (by decide) (fun hc145 => ?_) (fun hc145 => ?_)
              · have h := h.1 hc145
                refine r_aload_n (y := m12_rule) dX12_rule_106 rfl rfl ?_
                refine g_X12_191 (y := m12_rule) rfl dX12_rule_107 hm143 ?_
                refine r_bipush (y := m12_rule) (v := 24) dX12_rule_110 (by decide) ?_
                refine r_icmp_ne (y := m12_rule) (tgt := 119) dX12_rule_112 (by decide) (fun hc146 => ?_) (fun hc146 => ?_)
                · have h := h.1 hc146
                  refine r_iconst (y := m12_rule) (v := 0) dX12_rule_119 (by decide) ?_
                  refine p_X12_147 (y := m12_rule) rfl dX12_rule_120 hm143 ?_
                  refine r_aload_n (y := m12_rule) dX12_rule_123 rfl rfl ?_
                  refine g_X12_147 (y := m12_rule) rfl dX12_rule_124 (St.i hm143) ?_
                  refine V.top (b := 0) (by first | rfl | simp [mI_set, mI_setR]) ?_
                  refine r_if_le (y := m12_rule) (tgt := 132) dX12_rule_127 (by decide) (fun hc147 => ?_) (fun hc147 => ?_)
                  · have h := h.1 hc147
                    refine r_iconst (y := m12_rule) (v := 0) dX12_rule_132 (by decide) ?_
                    refine r_istore (y := m12_rule) (L' := [some (.ref 668), some (.int a0), some (.int a1), some (.int a2), some (.int a3), some (.int (mI m78 669 (Int32.toNatClampNeg a0))), some (.int x144), some (.int 0)]) dX12_rule_133 (Nat.le_of_ble_eq_true rfl) rfl ?_
                    exact h
                  · have h := h.2 hc147
                    refine r_iconst (y := m12_rule) (v := 0) dX12_rule_130 (by decide) ?_
                    exact r_iret (y := m12_rule) dX12_rule_131 rfl rfl h
                · have h := h.2 hc146
                  refine r_iconst (y := m12_rule) (v := 3) dX12_rule_115 (by decide) ?_
                  refine r_goto (y := m12_rule) (tgt := 120) dX12_rule_116 (by decide) ?_
                  refine p_X12_147 (y := m12_rule) rfl dX12_rule_120 hm143 ?_
                  refine r_aload_n (y := m12_rule) dX12_rule_123 rfl rfl ?_
                  refine g_X12_147 (y := m12_rule) rfl dX12_rule_124 (St.i hm143) ?_
                  refine V.top (b := 3) (by first | rfl | simp [mI_set, mI_setR]) ?_
                  refine r_if_le (y := m12_rule) (tgt := 132) dX12_rule_127 (by decide) (fun hc148 => ?_) (fun hc148 => ?_)
                  · have h := h.1 hc148
                    refine r_iconst (y := m12_rule) (v := 0) dX12_rule_132 (by decide) ?_
                    refine r_istore (y := m12_rule) (L' := [some (.ref 668), some (.int a0), some (.int a1), some (.int a2), some (.int a3), some (.int (mI m78 669 (Int32.toNatClampNeg a0))), some (.int x144), some (.int 0)]) dX12_rule_133 (Nat.le_of_ble_eq_true rfl) rfl ?_
                    exact h
                  · have h := h.2 hc148
                    refine r_iconst (y := m12_rule) (v := 0) dX12_rule_130 (by decide) ?_
                    exact r_iret (y := m12_rule) dX12_rule_131 rfl rfl h
              · have h := h.2 hc145
                refine r_iconst (y := m12_rule) (v := 2) dX12_rule_102 (by decide) ?_
                refine r_goto (y := m12_rule) (tgt := 120) dX12_rule_103 (by decide) ?_
                refine p_X12_147 (y := m12_rule) rfl dX12_rule_120 hm143 ?_
                refine r_aload_n (y := m12_rule) dX12_rule_123 rfl rfl ?_
                refine g_X12_147 (y := m12_rule) rfl dX12_rule_124 (St.i hm143) ?_
                refine V.top (b := 2) (by first | rfl | simp [mI_set, mI_setR]) ?_
                refine r_if_le (y := m12_rule) (tgt := 132) dX12_rule_127 (by decide) (fun hc149 => ?_) (fun hc149 => ?_)
                · have h := h.1 hc149
                  refine r_iconst (y := m12_rule) (v := 0) dX12_rule_132 (by decide) ?_
                  refine r_istore (y := m12_rule) (L' := [some (.ref 668), some (.int a0), some (.int a1), some (.int a2), some (.int a3), some (.int (mI m78 669 (Int32.toNatClampNeg a0))), some (.int x144), some (.int 0)]) dX12_rule_133 (Nat.le_of_ble_eq_true rfl) rfl ?_
                  exact h
                · have h := h.2 hc149
                  refine r_iconst (y := m12_rule) (v := 0) dX12_rule_130 (by decide) ?_
                  exact r_iret (y := m12_rule) dX12_rule_131 rfl rfl h
        · have h := h.2 hc116
          refine r_iconst (y := m12_rule) (v := 0) dX12_rule_48 (by decide) ?_
          exact r_iret (y := m12_rule) dX12_rule_49 rfl rfl h
