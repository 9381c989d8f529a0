/-! written by gen/joins.py -/
set_option maxHeartbeats 4000000 in
set_option maxRecDepth 100000 in
theorem u12_make {m : Mm} {K : Option Value ⊕ String → Mm → Prop} (hm : St m) {a0 : Int32} {a1 : Int32} {a2 : Int32}  (h : V m12_make 12 [some (.ref 668), some (.int a0), some (.int a1), some (.int a2), some (.int (-1)), some (.int 0), some (.int a0), some (.int 1), none, none, none, none] [] m K) : V m12_make 0 [some (.ref 668), some (.int a0), some (.int a1), some (.int a2), none, none, none, none, none, none, none, none] [] m K := by
  refine r_iconst (y := m12_make) (v := (-1)) dX12_make_0 (by decide) ?_
  refine r_istore (y := m12_make) (L' := [some (.ref 668), some (.int a0), some (.int a1), some (.int a2), some (.int (-1)), none, none, none, none, none, none, none]) dX12_make_1 (Nat.le_of_ble_eq_true rfl) rfl ?_
  refine r_iconst (y := m12_make) (v := 0) dX12_make_3 (by decide) ?_
  refine r_istore (y := m12_make) (L' := [some (.ref 668), some (.int a0), some (.int a1), some (.int a2), some (.int (-1)), some (.int 0), none, none, none, none, none, none]) dX12_make_4 (Nat.le_of_ble_eq_true rfl) rfl ?_
  refine r_iload_n (y := m12_make) dX12_make_6 rfl rfl ?_
  refine r_istore (y := m12_make) (L' := [some (.ref 668), some (.int a0), some (.int a1), some (.int a2), some (.int (-1)), some (.int 0), some (.int a0), none, none, none, none, none]) dX12_make_7 (Nat.le_of_ble_eq_true rfl) rfl ?_
  refine r_iconst (y := m12_make) (v := 1) dX12_make_9 (by decide) ?_
  refine r_istore (y := m12_make) (L' := [some (.ref 668), some (.int a0), some (.int a1), some (.int a2), some (.int (-1)), some (.int 0), some (.int a0), some (.int 1), none, none, none, none]) dX12_make_10 (Nat.le_of_ble_eq_true rfl) rfl ?_
  exact h
set_option maxHeartbeats 4000000 in
set_option maxRecDepth 100000 in
theorem u12_make_12 {m : Mm} {K : Option Value ⊕ String → Mm → Prop} (hm : St m) {v1 : Int32} {v2 : Int32} {v3 : Int32} {v4 : Int32} {v5 : Int32} {v6 : Int32} {v7 : Int32}  (h : ((v7 = 0 → K (.inl (some (.int v4))) m) ∧ (¬ v7 = 0 → vp_in v6 876 ∧ ((10 ≤ (mI m 676 (Int32.toNatClampNeg v6)) → C m12_kindOf [(.int (mI m 676 (Int32.toNatClampNeg v6)))] m (fun o m4 => ∃ x6 : Int32, o = .inl (some (.int x6)) ∧ St m4 ∧ ((20 ≤ (mI m 676 (Int32.toNatClampNeg v6)) → V m12_make 74 [some (.ref 668), some (.int v1), some (.int v2), some (.int v3), some (.int v4), some (.int v5), some (.int v6), some (.int v7), some (.int (mI m 676 (Int32.toNatClampNeg v6))), none, none, none] [(.int ((mI m 676 (Int32.toNatClampNeg v6)) - 20)), (.int x6), (.ref 668)] m4 K) ∧ (¬ 20 ≤ (mI m 676 (Int32.toNatClampNeg v6)) → V m12_make 74 [some (.ref 668), some (.int v1), some (.int v2), some (.int v3), some (.int v4), some (.int v5), some (.int v6), some (.int v7), some (.int (mI m 676 (Int32.toNatClampNeg v6))), none, none, none] [(.int ((mI m 676 (Int32.toNatClampNeg v6)) - 10)), (.int x6), (.ref 668)] m4 K)))) ∧ (¬ 10 ≤ (mI m 676 (Int32.toNatClampNeg v6)) → vp_in ((6 * v2) + (mI m 676 (Int32.toNatClampNeg v6))) 1200 ∧ V m12_make 78 [some (.ref 668), some (.int v1), some (.int v2), some (.int v3), some (.int v4), some (.int v5), some (.int v6), some (.int v7), some (.int (mI m 676 (Int32.toNatClampNeg v6))), none, none, none] [(.int (mI m 685 (Int32.toNatClampNeg ((6 * v2) + (mI m 676 (Int32.toNatClampNeg v6))))))] m K))))) : V m12_make 12 [some (.ref 668), some (.int v1), some (.int v2), some (.int v3), some (.int v4), some (.int v5), some (.int v6), some (.int v7), none, none, none, none] [] m K := by
  refine r_iload (y := m12_make) dX12_make_12 rfl ?_
  refine r_if_eq (y := m12_make) (tgt := 324) dX12_make_14 (by decide) (fun hc1 => ?_) (fun hc1 => ?_)
  · have h := h.1 hc1
    refine r_iload (y := m12_make) dX12_make_324 rfl ?_
    exact r_iret (y := m12_make) dX12_make_326 rfl rfl h
  · have h := h.2 hc1
    refine r_aload_n (y := m12_make) dX12_make_17 rfl rfl ?_
    refine g_X12_32 (y := m12_make) rfl dX12_make_18 hm ?_
    refine r_iload (y := m12_make) dX12_make_21 rfl ?_
    obtain ⟨hb2, h⟩ := h
    refine r_iald (y := m12_make) (n := 876) dX12_make_23 (sa_676 hm) hb2 ?_
    refine r_istore (y := m12_make) (L' := [some (.ref 668), some (.int v1), some (.int v2), some (.int v3), some (.int v4), some (.int v5), some (.int v6), some (.int v7), some (.int (mI m 676 (Int32.toNatClampNeg v6))), none, none, none]) dX12_make_24 (Nat.le_of_ble_eq_true rfl) rfl ?_
    refine r_iload (y := m12_make) dX12_make_26 rfl ?_
    refine r_bipush (y := m12_make) (v := 10) dX12_make_28 (by decide) ?_
    refine r_icmp_ge (y := m12_make) (tgt := 48) dX12_make_30 (by decide) (fun hc3 => ?_) (fun hc3 => ?_)
    · have h := h.1 hc3
      refine r_aload_n (y := m12_make) dX12_make_48 rfl rfl ?_
      refine r_iload (y := m12_make) dX12_make_49 rfl ?_
      refine r_callS (y := m12_make) (As := [(.int (mI m 676 (Int32.toNatClampNeg v6)))]) dX12_make_51 rfl k12_kindOf lm_X12_236 rfl ⟨by decide, by decide⟩ (Nat.le_of_ble_eq_true rfl) (C.mono h ?_)
      rintro _ m4 ⟨x6, rfl, hm5, h⟩
      refine ⟨_, rfl, ?_⟩
      refine r_iload (y := m12_make) dX12_make_54 rfl ?_
      refine r_bipush (y := m12_make) (v := 20) dX12_make_56 (by decide) ?_
      refine r_icmp_ge (y := m12_make) (tgt := 69) dX12_make_58 (by decide) (fun hc7 => ?_) (fun hc7 => ?_)
      · have h := h.1 hc7
        refine r_iload (y := m12_make) dX12_make_69 rfl ?_
        refine r_bipush (y := m12_make) (v := 20) dX12_make_71 (by decide) ?_
        refine r_isub (y := m12_make) dX12_make_73 ?_
        exact h
      · have h := h.2 hc7
        refine r_iload (y := m12_make) dX12_make_61 rfl ?_
        refine r_bipush (y := m12_make) (v := 10) dX12_make_63 (by decide) ?_
        refine r_isub (y := m12_make) dX12_make_65 ?_
        refine r_goto (y := m12_make) (tgt := 74) dX12_make_66 (by decide) ?_
        exact h
    · have h := h.2 hc3
      refine r_aload_n (y := m12_make) dX12_make_33 rfl rfl ?_
      refine g_X12_59 (y := m12_make) rfl dX12_make_34 hm ?_
      refine r_bipush (y := m12_make) (v := 6) dX12_make_37 (by decide) ?_
      refine r_iload_n (y := m12_make) dX12_make_39 rfl rfl ?_
      refine r_imul (y := m12_make) dX12_make_40 ?_
      refine r_iload (y := m12_make) dX12_make_41 rfl ?_
      refine r_iadd (y := m12_make) dX12_make_43 ?_
      obtain ⟨hb8, h⟩ := h
      refine r_iald (y := m12_make) (n := 1200) dX12_make_44 (sa_685 hm) hb8 ?_
      refine r_goto (y := m12_make) (tgt := 78) dX12_make_45 (by decide) ?_
      exact h
set_option maxHeartbeats 4000000 in
set_option maxRecDepth 100000 in
theorem u12_make_74 {m : Mm} {K : Option Value ⊕ String → Mm → Prop} (hm : St m) {v1 : Int32} {v2 : Int32} {v3 : Int32} {v4 : Int32} {v5 : Int32} {v6 : Int32} {v7 : Int32} {v8 : Int32} {s1 : Int32} {s2 : Int32}  (h : C m12_newThing [(.ref 668), (.int s1), (.int s2), (.int v3)] m (fun o m1 => ∃ x3 : Int32, o = .inl (some (.int x3)) ∧ St m1 ∧ V m12_make 78 [some (.ref 668), some (.int v1), some (.int v2), some (.int v3), some (.int v4), some (.int v5), some (.int v6), some (.int v7), some (.int v8), none, none, none] [(.int x3)] m1 K)) : V m12_make 74 [some (.ref 668), some (.int v1), some (.int v2), some (.int v3), some (.int v4), some (.int v5), some (.int v6), some (.int v7), some (.int v8), none, none, none] [(.int s2), (.int s1), (.ref 668)] m K := by
  refine r_iload_n (y := m12_make) dX12_make_74 rfl rfl ?_
  refine r_callV (y := m12_make) (As := [(.int s1), (.int s2), (.int v3)]) (b := 668) (ci := 12) dX12_make_75 rfl k12_newThing lm_X12_233 rfl ⟨by decide, by decide⟩ (so_668 hm) (by decide) rfl (Nat.le_of_ble_eq_true rfl) (C.mono h ?_)
  rintro _ m1 ⟨x3, rfl, hm2, h⟩
  refine ⟨_, rfl, ?_⟩
  exact h
set_option maxHeartbeats 4000000 in
set_option maxRecDepth 100000 in
theorem u12_make_78 {m : Mm} {K : Option Value ⊕ String → Mm → Prop} (hm : St m) {v1 : Int32} {v2 : Int32} {v3 : Int32} {v4 : Int32} {v5 : Int32} {v6 : Int32} {v7 : Int32} {v8 : Int32} {s0 : Int32}  (h : ((¬ v8 = 33 → C m12_partsOf [(.ref 668), (.int v8)] m (fun o m2 => ∃ x4 : Int32, o = .inl (some (.int x4)) ∧ St m2 ∧ V m12_make 97 [some (.ref 668), some (.int v1), some (.int v2), some (.int v3), some (.int v4), some (.int v5), some (.int v6), some (.int v7), some (.int v8), some (.int s0), none, none] [(.int x4)] m2 K)) ∧ (v8 = 33 → V m12_make 97 [some (.ref 668), some (.int v1), some (.int v2), some (.int v3), some (.int v4), some (.int v5), some (.int v6), some (.int v7), some (.int v8), some (.int s0), none, none] [(.int 0)] m K))) : V m12_make 78 [some (.ref 668), some (.int v1), some (.int v2), some (.int v3), some (.int v4), some (.int v5), some (.int v6), some (.int v7), some (.int v8), none, none, none] [(.int s0)] m K := by
  refine r_istore (y := m12_make) (L' := [some (.ref 668), some (.int v1), some (.int v2), some (.int v3), some (.int v4), some (.int v5), some (.int v6), some (.int v7), some (.int v8), some (.int s0), none, none]) dX12_make_78 (Nat.le_of_ble_eq_true rfl) rfl ?_
  refine r_iload (y := m12_make) dX12_make_80 rfl ?_
  refine r_bipush (y := m12_make) (v := 33) dX12_make_82 (by decide) ?_
  refine r_icmp_ne (y := m12_make) (tgt := 91) dX12_make_84 (by decide) (fun hc1 => ?_) (fun hc1 => ?_)
  · have h := h.1 hc1
    refine r_aload_n (y := m12_make) dX12_make_91 rfl rfl ?_
    refine r_iload (y := m12_make) dX12_make_92 rfl ?_
    refine r_callV (y := m12_make) (As := [(.int v8)]) (b := 668) (ci := 12) dX12_make_94 rfl k12_partsOf lm_X12_161 rfl ⟨by decide, by decide⟩ (so_668 hm) (by decide) rfl (Nat.le_of_ble_eq_true rfl) (C.mono h ?_)
    rintro _ m2 ⟨x4, rfl, hm3, h⟩
    refine ⟨_, rfl, ?_⟩
    exact h
  · have h := h.2 hc1
    refine r_iconst (y := m12_make) (v := 0) dX12_make_87 (by decide) ?_
    refine r_goto (y := m12_make) (tgt := 97) dX12_make_88 (by decide) ?_
    exact h
set_option maxHeartbeats 4000000 in
set_option maxRecDepth 100000 in
theorem u12_make_97 {m : Mm} {K : Option Value ⊕ String → Mm → Prop} (hm : St m) {v1 : Int32} {v2 : Int32} {v3 : Int32} {v4 : Int32} {v5 : Int32} {v6 : Int32} {v7 : Int32} {v8 : Int32} {v9 : Int32} {s0 : Int32}  (h : ((¬ v8 = 33 → V m12_make 125 [some (.ref 668), some (.int v1), some (.int v2), some (.int v3), some (.int v4), some (.int v5), some (.int v6), some (.int v7), some (.int v8), some (.int v9), some (.int s0), none] [] m K) ∧ (v8 = 33 → vp_in v9 6000 ∧ vp_in v9 6000 ∧ V m12_make 125 [some (.ref 668), some (.int v1), some (.int v2), some (.int v3), some (.int v4), some (.int v5), some (.int v6), some (.int v7), some (.int v8), some (.int v9), some (.int s0), none] [] (mSetI (mSetI m 678 (Int32.toNatClampNeg v9) (v6 + 1)) 682 (Int32.toNatClampNeg v9) v2) K))) : V m12_make 97 [some (.ref 668), some (.int v1), some (.int v2), some (.int v3), some (.int v4), some (.int v5), some (.int v6), some (.int v7), some (.int v8), some (.int v9), none, none] [(.int s0)] m K := by
  refine r_istore (y := m12_make) (L' := [some (.ref 668), some (.int v1), some (.int v2), some (.int v3), some (.int v4), some (.int v5), some (.int v6), some (.int v7), some (.int v8), some (.int v9), some (.int s0), none]) dX12_make_97 (Nat.le_of_ble_eq_true rfl) rfl ?_
  refine r_iload (y := m12_make) dX12_make_99 rfl ?_
  refine r_bipush (y := m12_make) (v := 33) dX12_make_101 (by decide) ?_
  refine r_icmp_ne (y := m12_make) (tgt := 125) dX12_make_103 (by decide) (fun hc1 => ?_) (fun hc1 => ?_)
  · have h := h.1 hc1
    exact h
  · have h := h.2 hc1
    refine r_aload_n (y := m12_make) dX12_make_106 rfl rfl ?_
    refine g_X12_38 (y := m12_make) rfl dX12_make_107 hm ?_
    refine r_iload (y := m12_make) dX12_make_110 rfl ?_
    refine r_iload (y := m12_make) dX12_make_112 rfl ?_
    refine r_iconst (y := m12_make) (v := 1) dX12_make_114 (by decide) ?_
    refine r_iadd (y := m12_make) dX12_make_115 ?_
    obtain ⟨hb2, h⟩ := h
    refine r_iast (y := m12_make) (n := 6000) dX12_make_116 (sa_678 hm) hb2 ?_
    refine r_aload_n (y := m12_make) dX12_make_117 rfl rfl ?_
    refine g_X12_50 (y := m12_make) rfl dX12_make_118 (St.i hm) ?_
    refine r_iload (y := m12_make) dX12_make_121 rfl ?_
    refine r_iload_n (y := m12_make) dX12_make_123 rfl rfl ?_
    obtain ⟨hb3, h⟩ := h
    refine r_iast (y := m12_make) (n := 6000) dX12_make_124 (sa_682 (St.i hm)) hb3 ?_
    exact h
set_option maxHeartbeats 4000000 in
set_option maxRecDepth 100000 in
theorem u12_make_125 {m : Mm} {K : Option Value ⊕ String → Mm → Prop} (hm : St m) {v1 : Int32} {v2 : Int32} {v3 : Int32} {v4 : Int32} {v5 : Int32} {v6 : Int32} {v7 : Int32} {v8 : Int32} {v9 : Int32} {v10 : Int32}  (h : ((¬ v5 = 0 → vp_in (v5 - 1) 16 ∧ vp_in (mI m 697 (Int32.toNatClampNeg (v5 - 1))) 6000 ∧ ((¬ (mI m 679 (Int32.toNatClampNeg (mI m 697 (Int32.toNatClampNeg (v5 - 1))))) = (-1) → V m12_make 160 [some (.ref 668), some (.int v1), some (.int v2), some (.int v3), some (.int v4), some (.int v5), some (.int v6), some (.int v7), some (.int v8), some (.int v9), some (.int v10), none] [(.int 0)] m K) ∧ ((mI m 679 (Int32.toNatClampNeg (mI m 697 (Int32.toNatClampNeg (v5 - 1))))) = (-1) → V m12_make 160 [some (.ref 668), some (.int v1), some (.int v2), some (.int v3), some (.int v4), some (.int v5), some (.int v6), some (.int v7), some (.int v8), some (.int v9), some (.int v10), none] [(.int 1)] m K))) ∧ (v5 = 0 → V m12_make 238 [some (.ref 668), some (.int v1), some (.int v2), some (.int v3), some (.int v9), some (.int v5), some (.int v6), some (.int v7), some (.int v8), some (.int v9), some (.int v10), none] [] m K))) : V m12_make 125 [some (.ref 668), some (.int v1), some (.int v2), some (.int v3), some (.int v4), some (.int v5), some (.int v6), some (.int v7), some (.int v8), some (.int v9), some (.int v10), none] [] m K := by
  refine r_iload (y := m12_make) dX12_make_125 rfl ?_
  refine r_if_ne (y := m12_make) (tgt := 137) dX12_make_127 (by decide) (fun hc1 => ?_) (fun hc1 => ?_)
  · have h := h.1 hc1
    refine r_aload_n (y := m12_make) dX12_make_137 rfl rfl ?_
    refine g_X12_41 (y := m12_make) rfl dX12_make_138 hm ?_
    refine r_aload_n (y := m12_make) dX12_make_141 rfl rfl ?_
    refine g_X12_95 (y := m12_make) rfl dX12_make_142 hm ?_
    refine r_iload (y := m12_make) dX12_make_145 rfl ?_
    refine r_iconst (y := m12_make) (v := 1) dX12_make_147 (by decide) ?_
    refine r_isub (y := m12_make) dX12_make_148 ?_
    obtain ⟨hb2, h⟩ := h
    refine r_iald (y := m12_make) (n := 16) dX12_make_149 (sa_697 hm) hb2 ?_
    obtain ⟨hb3, h⟩ := h
    refine r_iald (y := m12_make) (n := 6000) dX12_make_150 (sa_679 hm) hb3 ?_
    refine r_iconst (y := m12_make) (v := (-1)) dX12_make_151 (by decide) ?_
    refine r_icmp_ne (y := m12_make) (tgt := 159) dX12_make_152 (by decide) (fun hc4 => ?_) (fun hc4 => ?_)
    · have h := h.1 hc4
      refine r_iconst (y := m12_make) (v := 0) dX12_make_159 (by decide) ?_
      exact h
    · have h := h.2 hc4
      refine r_iconst (y := m12_make) (v := 1) dX12_make_155 (by decide) ?_
      refine r_goto (y := m12_make) (tgt := 160) dX12_make_156 (by decide) ?_
      exact h
  · have h := h.2 hc1
    refine r_iload (y := m12_make) dX12_make_130 rfl ?_
    refine r_istore (y := m12_make) (L' := [some (.ref 668), some (.int v1), some (.int v2), some (.int v3), some (.int v9), some (.int v5), some (.int v6), some (.int v7), some (.int v8), some (.int v9), some (.int v10), none]) dX12_make_132 (Nat.le_of_ble_eq_true rfl) rfl ?_
    refine r_goto (y := m12_make) (tgt := 238) dX12_make_134 (by decide) ?_
    exact h
set_option maxHeartbeats 4000000 in
set_option maxRecDepth 100000 in
theorem u12_make_160 {m : Mm} {K : Option Value ⊕ String → Mm → Prop} (hm : St m) {v1 : Int32} {v2 : Int32} {v3 : Int32} {v4 : Int32} {v5 : Int32} {v6 : Int32} {v7 : Int32} {v8 : Int32} {v9 : Int32} {v10 : Int32} {s0 : Int32}  (h : vp_in (v5 - 1) 16 ∧ ((s0 = 0 → vp_in (v5 - 1) 16 ∧ vp_in (mI m 697 (Int32.toNatClampNeg (v5 - 1))) 6000 ∧ V m12_make 199 [some (.ref 668), some (.int v1), some (.int v2), some (.int v3), some (.int v4), some (.int v5), some (.int v6), some (.int v7), some (.int v8), some (.int v9), some (.int v10), some (.int s0)] [(.int (mI m 679 (Int32.toNatClampNeg (mI m 697 (Int32.toNatClampNeg (v5 - 1)))))), (.int (mI m 697 (Int32.toNatClampNeg (v5 - 1)))), (.ref 679)] m K) ∧ (¬ s0 = 0 → V m12_make 199 [some (.ref 668), some (.int v1), some (.int v2), some (.int v3), some (.int v4), some (.int v5), some (.int v6), some (.int v7), some (.int v8), some (.int v9), some (.int v10), some (.int s0)] [(.int v9), (.int (mI m 697 (Int32.toNatClampNeg (v5 - 1)))), (.ref 679)] m K))) : V m12_make 160 [some (.ref 668), some (.int v1), some (.int v2), some (.int v3), some (.int v4), some (.int v5), some (.int v6), some (.int v7), some (.int v8), some (.int v9), some (.int v10), none] [(.int s0)] m K := by
  refine r_istore (y := m12_make) (L' := [some (.ref 668), some (.int v1), some (.int v2), some (.int v3), some (.int v4), some (.int v5), some (.int v6), some (.int v7), some (.int v8), some (.int v9), some (.int v10), some (.int s0)]) dX12_make_160 (Nat.le_of_ble_eq_true rfl) rfl ?_
  refine r_aload_n (y := m12_make) dX12_make_162 rfl rfl ?_
  refine g_X12_41 (y := m12_make) rfl dX12_make_163 hm ?_
  refine r_aload_n (y := m12_make) dX12_make_166 rfl rfl ?_
  refine g_X12_95 (y := m12_make) rfl dX12_make_167 hm ?_
  refine r_iload (y := m12_make) dX12_make_170 rfl ?_
  refine r_iconst (y := m12_make) (v := 1) dX12_make_172 (by decide) ?_
  refine r_isub (y := m12_make) dX12_make_173 ?_
  obtain ⟨hb1, h⟩ := h
  refine r_iald (y := m12_make) (n := 16) dX12_make_174 (sa_697 hm) hb1 ?_
  refine r_iload (y := m12_make) dX12_make_175 rfl ?_
  refine r_if_eq (y := m12_make) (tgt := 185) dX12_make_177 (by decide) (fun hc2 => ?_) (fun hc2 => ?_)
  · have h := h.1 hc2
    refine r_aload_n (y := m12_make) dX12_make_185 rfl rfl ?_
    refine g_X12_41 (y := m12_make) rfl dX12_make_186 hm ?_
    refine r_aload_n (y := m12_make) dX12_make_189 rfl rfl ?_
    refine g_X12_95 (y := m12_make) rfl dX12_make_190 hm ?_
    refine r_iload (y := m12_make) dX12_make_193 rfl ?_
    refine r_iconst (y := m12_make) (v := 1) dX12_make_195 (by decide) ?_
    refine r_isub (y := m12_make) dX12_make_196 ?_
    obtain ⟨hb3, h⟩ := h
    refine r_iald (y := m12_make) (n := 16) dX12_make_197 (sa_697 hm) hb3 ?_
    obtain ⟨hb4, h⟩ := h
    refine r_iald (y := m12_make) (n := 6000) dX12_make_198 (sa_679 hm) hb4 ?_
    exact h
  · have h := h.2 hc2
    refine r_iload (y := m12_make) dX12_make_180 rfl ?_
    refine r_goto (y := m12_make) (tgt := 199) dX12_make_182 (by decide) ?_
    exact h
set_option maxHeartbeats 4000000 in
set_option maxRecDepth 100000 in
theorem u12_make_238 {m : Mm} {K : Option Value ⊕ String → Mm → Prop} (hm : St m) {v1 : Int32} {v2 : Int32} {v3 : Int32} {v4 : Int32} {v5 : Int32} {v6 : Int32} {v7 : Int32} {v8 : Int32} {v9 : Int32} {v10 : Int32}  (h : ((v10 ≤ 0 → V m12_make 264 [some (.ref 668), some (.int v1), some (.int v2), some (.int v3), some (.int v4), some (.int v5), some (.int v6), some (.int v7), some (.int v8), some (.int v9), some (.int v10), none] [] m K) ∧ (¬ v10 ≤ 0 → vp_in v5 16 ∧ vp_in v5 16 ∧ V m12_make 264 [some (.ref 668), some (.int v1), some (.int v2), some (.int v3), some (.int v4), some (.int (v5 + 1)), some (.int v6), some (.int v7), some (.int v8), some (.int v9), some (.int v10), none] [] (mSetI (mSetI m 697 (Int32.toNatClampNeg v5) v9) 698 (Int32.toNatClampNeg v5) v10) K))) : V m12_make 238 [some (.ref 668), some (.int v1), some (.int v2), some (.int v3), some (.int v4), some (.int v5), some (.int v6), some (.int v7), some (.int v8), some (.int v9), some (.int v10), none] [] m K := by
  refine r_iload (y := m12_make) dX12_make_238 rfl ?_
  refine r_if_le (y := m12_make) (tgt := 264) dX12_make_240 (by decide) (fun hc1 => ?_) (fun hc1 => ?_)
  · have h := h.1 hc1
    exact h
  · have h := h.2 hc1
    refine r_aload_n (y := m12_make) dX12_make_243 rfl rfl ?_
    refine g_X12_95 (y := m12_make) rfl dX12_make_244 hm ?_
    refine r_iload (y := m12_make) dX12_make_247 rfl ?_
    refine r_iload (y := m12_make) dX12_make_249 rfl ?_
    obtain ⟨hb2, h⟩ := h
    refine r_iast (y := m12_make) (n := 16) dX12_make_251 (sa_697 hm) hb2 ?_
    refine r_aload_n (y := m12_make) dX12_make_252 rfl rfl ?_
    refine g_X12_98 (y := m12_make) rfl dX12_make_253 (St.i hm) ?_
    refine r_iload (y := m12_make) dX12_make_256 rfl ?_
    refine r_iload (y := m12_make) dX12_make_258 rfl ?_
    obtain ⟨hb3, h⟩ := h
    refine r_iast (y := m12_make) (n := 16) dX12_make_260 (sa_698 (St.i hm)) hb3 ?_
    refine r_iinc (y := m12_make) (v := (v5 + 1)) (L' := [some (.ref 668), some (.int v1), some (.int v2), some (.int v3), some (.int v4), some (.int (v5 + 1)), some (.int v6), some (.int v7), some (.int v8), some (.int v9), some (.int v10), none]) dX12_make_261 rfl (by rfl) rfl ?_
    exact h
set_option maxHeartbeats 4000000 in
set_option maxRecDepth 100000 in
theorem u12_make_199 {m : Mm} {K : Option Value ⊕ String → Mm → Prop} (hm : St m) {v1 : Int32} {v2 : Int32} {v3 : Int32} {v4 : Int32} {v5 : Int32} {v6 : Int32} {v7 : Int32} {v8 : Int32} {v9 : Int32} {v10 : Int32} {v11 : Int32} {s1 : Int32} {s2 : Int32}  (h : vp_in s1 6000 ∧ vp_in (v5 - 1) 16 ∧ ((v11 = 0 → V m12_make 224 [some (.ref 668), some (.int v1), some (.int v2), some (.int v3), some (.int v4), some (.int v5), some (.int v6), some (.int v7), some (.int v8), some (.int v9), some (.int v10), some (.int v11)] [(.int v9), (.int (mI m 697 (Int32.toNatClampNeg (v5 - 1)))), (.ref 680)] (mSetI m 679 (Int32.toNatClampNeg s1) s2) K) ∧ (¬ v11 = 0 → V m12_make 224 [some (.ref 668), some (.int v1), some (.int v2), some (.int v3), some (.int v4), some (.int v5), some (.int v6), some (.int v7), some (.int v8), some (.int v9), some (.int v10), some (.int v11)] [(.int (-1)), (.int (mI m 697 (Int32.toNatClampNeg (v5 - 1)))), (.ref 680)] (mSetI m 679 (Int32.toNatClampNeg s1) s2) K))) : V m12_make 199 [some (.ref 668), some (.int v1), some (.int v2), some (.int v3), some (.int v4), some (.int v5), some (.int v6), some (.int v7), some (.int v8), some (.int v9), some (.int v10), some (.int v11)] [(.int s2), (.int s1), (.ref 679)] m K := by
  obtain ⟨hb1, h⟩ := h
  refine r_iast (y := m12_make) (n := 6000) dX12_make_199 (sa_679 hm) hb1 ?_
  refine r_aload_n (y := m12_make) dX12_make_200 rfl rfl ?_
  refine g_X12_44 (y := m12_make) rfl dX12_make_201 (St.i hm) ?_
  refine r_aload_n (y := m12_make) dX12_make_204 rfl rfl ?_
  refine g_X12_95 (y := m12_make) rfl dX12_make_205 (St.i hm) ?_
  refine r_iload (y := m12_make) dX12_make_208 rfl ?_
  refine r_iconst (y := m12_make) (v := 1) dX12_make_210 (by decide) ?_
  refine r_isub (y := m12_make) dX12_make_211 ?_
  obtain ⟨hb2, h⟩ := h
  refine r_iald (y := m12_make) (n := 16) dX12_make_212 (sa_697 (St.i hm)) hb2 ?_
  refine V.top (b := (mI m 697 (Int32.toNatClampNeg (v5 - 1)))) (by first | rfl | simp [mI_set, mI_setR]) ?_
  refine r_iload (y := m12_make) dX12_make_213 rfl ?_
  refine r_if_eq (y := m12_make) (tgt := 222) dX12_make_215 (by decide) (fun hc3 => ?_) (fun hc3 => ?_)
  · have h := h.1 hc3
    refine r_iload (y := m12_make) dX12_make_222 rfl ?_
    exact h
  · have h := h.2 hc3
    refine r_iconst (y := m12_make) (v := (-1)) dX12_make_218 (by decide) ?_
    refine r_goto (y := m12_make) (tgt := 224) dX12_make_219 (by decide) ?_
    exact h
set_option maxHeartbeats 4000000 in
set_option maxRecDepth 100000 in
theorem u12_make_264 {m : Mm} {K : Option Value ⊕ String → Mm → Prop} (hm : St m) {v1 : Int32} {v2 : Int32} {v3 : Int32} {v4 : Int32} {v5 : Int32} {v6 : Int32} {v7 : Int32} {v8 : Int32} {v9 : Int32} {v10 : Int32}  (h : ((v5 ≤ 0 → V m12_make 287 [some (.ref 668), some (.int v1), some (.int v2), some (.int v3), some (.int v4), some (.int v5), some (.int v6), some (.int v7), some (.int v8), some (.int v9), some (.int v10), none] [] m K) ∧ (¬ v5 ≤ 0 → vp_in (v5 - 1) 16 ∧ ((¬ (mI m 698 (Int32.toNatClampNeg (v5 - 1))) = 0 → V m12_make 287 [some (.ref 668), some (.int v1), some (.int v2), some (.int v3), some (.int v4), some (.int v5), some (.int v6), some (.int v7), some (.int v8), some (.int v9), some (.int v10), none] [] m K) ∧ ((mI m 698 (Int32.toNatClampNeg (v5 - 1))) = 0 → V m12_make 264 [some (.ref 668), some (.int v1), some (.int v2), some (.int v3), some (.int v4), some (.int (v5 + (-1))), some (.int v6), some (.int v7), some (.int v8), some (.int v9), some (.int v10), none] [] m K))))) : V m12_make 264 [some (.ref 668), some (.int v1), some (.int v2), some (.int v3), some (.int v4), some (.int v5), some (.int v6), some (.int v7), some (.int v8), some (.int v9), some (.int v10), none] [] m K := by
  refine r_iload (y := m12_make) dX12_make_264 rfl ?_
  refine r_if_le (y := m12_make) (tgt := 287) dX12_make_266 (by decide) (fun hc1 => ?_) (fun hc1 => ?_)
  · have h := h.1 hc1
    exact h
  · have h := h.2 hc1
    refine r_aload_n (y := m12_make) dX12_make_269 rfl rfl ?_
    refine g_X12_98 (y := m12_make) rfl dX12_make_270 hm ?_
    refine r_iload (y := m12_make) dX12_make_273 rfl ?_
    refine r_iconst (y := m12_make) (v := 1) dX12_make_275 (by decide) ?_
    refine r_isub (y := m12_make) dX12_make_276 ?_
    obtain ⟨hb2, h⟩ := h
    refine r_iald (y := m12_make) (n := 16) dX12_make_277 (sa_698 hm) hb2 ?_
    refine r_if_ne (y := m12_make) (tgt := 287) dX12_make_278 (by decide) (fun hc3 => ?_) (fun hc3 => ?_)
    · have h := h.1 hc3
      exact h
    · have h := h.2 hc3
      refine r_iinc (y := m12_make) (v := (v5 + (-1))) (L' := [some (.ref 668), some (.int v1), some (.int v2), some (.int v3), some (.int v4), some (.int (v5 + (-1))), some (.int v6), some (.int v7), some (.int v8), some (.int v9), some (.int v10), none]) dX12_make_281 rfl (by rfl) rfl ?_
      refine r_goto (y := m12_make) (tgt := 264) dX12_make_284 (by decide) ?_
      exact h
set_option maxHeartbeats 4000000 in
set_option maxRecDepth 100000 in
theorem u12_make_224 {m : Mm} {K : Option Value ⊕ String → Mm → Prop} (hm : St m) {v1 : Int32} {v2 : Int32} {v3 : Int32} {v4 : Int32} {v5 : Int32} {v6 : Int32} {v7 : Int32} {v8 : Int32} {v9 : Int32} {v10 : Int32} {v11 : Int32} {s1 : Int32} {s2 : Int32}  (h : vp_in s1 6000 ∧ vp_in (v5 - 1) 16 ∧ vp_in (v5 - 1) 16 ∧ V m12_make 238 [some (.ref 668), some (.int v1), some (.int v2), some (.int v3), some (.int v4), some (.int v5), some (.int v6), some (.int v7), some (.int v8), some (.int v9), some (.int v10), some (.int v11)] [] (mSetI (mSetI m 680 (Int32.toNatClampNeg s1) s2) 698 (Int32.toNatClampNeg (v5 - 1)) ((mI m 698 (Int32.toNatClampNeg (v5 - 1))) - 1)) K) : V m12_make 224 [some (.ref 668), some (.int v1), some (.int v2), some (.int v3), some (.int v4), some (.int v5), some (.int v6), some (.int v7), some (.int v8), some (.int v9), some (.int v10), some (.int v11)] [(.int s2), (.int s1), (.ref 680)] m K := by
  obtain ⟨hb1, h⟩ := h
  refine r_iast (y := m12_make) (n := 6000) dX12_make_224 (sa_680 hm) hb1 ?_
  refine r_aload_n (y := m12_make) dX12_make_225 rfl rfl ?_
  refine g_X12_98 (y := m12_make) rfl dX12_make_226 (St.i hm) ?_
  refine r_iload (y := m12_make) dX12_make_229 rfl ?_
  refine r_iconst (y := m12_make) (v := 1) dX12_make_231 (by decide) ?_
  refine r_isub (y := m12_make) dX12_make_232 ?_
  refine r_dup2 (y := m12_make) dX12_make_233 ?_
  obtain ⟨hb2, h⟩ := h
  refine r_iald (y := m12_make) (n := 16) dX12_make_234 (sa_698 (St.i hm)) hb2 ?_
  refine V.top (b := (mI m 698 (Int32.toNatClampNeg (v5 - 1)))) (by first | rfl | simp [mI_set, mI_setR]) ?_
  refine r_iconst (y := m12_make) (v := 1) dX12_make_235 (by decide) ?_
  refine r_isub (y := m12_make) dX12_make_236 ?_
  obtain ⟨hb3, h⟩ := h
  refine r_iast (y := m12_make) (n := 16) dX12_make_237 (sa_698 (St.i hm)) hb3 ?_
  exact h
set_option maxHeartbeats 4000000 in
set_option maxRecDepth 100000 in
theorem u12_make_287 {m : Mm} {K : Option Value ⊕ String → Mm → Prop} (hm : St m) {v1 : Int32} {v2 : Int32} {v3 : Int32} {v4 : Int32} {v5 : Int32} {v6 : Int32} {v7 : Int32} {v8 : Int32} {v9 : Int32} {v10 : Int32}  (h : ((¬ v8 = 33 → V m12_make 307 [some (.ref 668), some (.int v1), some (.int v2), some (.int v3), some (.int v4), some (.int v5), some (.int v6), some (.int v7), some (.int v8), some (.int v9), some (.int v10), none] [(.int (v6 + 1))] m K) ∧ (v8 = 33 → C m12_endOf [(.ref 668), (.int v6)] m (fun o m2 => ∃ x4 : Int32, o = .inl (some (.int x4)) ∧ St m2 ∧ V m12_make 307 [some (.ref 668), some (.int v1), some (.int v2), some (.int v3), some (.int v4), some (.int v5), some (.int v6), some (.int v7), some (.int v8), some (.int v9), some (.int v10), none] [(.int x4)] m2 K)))) : V m12_make 287 [some (.ref 668), some (.int v1), some (.int v2), some (.int v3), some (.int v4), some (.int v5), some (.int v6), some (.int v7), some (.int v8), some (.int v9), some (.int v10), none] [] m K := by
  refine r_iload (y := m12_make) dX12_make_287 rfl ?_
  refine r_bipush (y := m12_make) (v := 33) dX12_make_289 (by decide) ?_
  refine r_icmp_ne (y := m12_make) (tgt := 303) dX12_make_291 (by decide) (fun hc1 => ?_) (fun hc1 => ?_)
  · have h := h.1 hc1
    refine r_iload (y := m12_make) dX12_make_303 rfl ?_
    refine r_iconst (y := m12_make) (v := 1) dX12_make_305 (by decide) ?_
    refine r_iadd (y := m12_make) dX12_make_306 ?_
    exact h
  · have h := h.2 hc1
    refine r_aload_n (y := m12_make) dX12_make_294 rfl rfl ?_
    refine r_iload (y := m12_make) dX12_make_295 rfl ?_
    refine r_callV (y := m12_make) (As := [(.int v6)]) (b := 668) (ci := 12) dX12_make_297 rfl k12_endOf lm_X12_201 rfl ⟨by decide, by decide⟩ (so_668 hm) (by decide) rfl (Nat.le_of_ble_eq_true rfl) (C.mono h ?_)
    rintro _ m2 ⟨x4, rfl, hm3, h⟩
    refine ⟨_, rfl, ?_⟩
    refine r_goto (y := m12_make) (tgt := 307) dX12_make_300 (by decide) ?_
    exact h
set_option maxHeartbeats 4000000 in
set_option maxRecDepth 100000 in
theorem u12_make_307 {m : Mm} {K : Option Value ⊕ String → Mm → Prop} (hm : St m) {v1 : Int32} {v2 : Int32} {v3 : Int32} {v4 : Int32} {v5 : Int32} {v6 : Int32} {v7 : Int32} {v8 : Int32} {v9 : Int32} {v10 : Int32} {s0 : Int32}  (h : ((v5 ≤ 0 → V m12_make 319 [some (.ref 668), some (.int v1), some (.int v2), some (.int v3), some (.int v4), some (.int v5), some (.int s0), some (.int v7), some (.int v8), some (.int v9), some (.int v10), none] [(.int 0)] m K) ∧ (¬ v5 ≤ 0 → V m12_make 319 [some (.ref 668), some (.int v1), some (.int v2), some (.int v3), some (.int v4), some (.int v5), some (.int s0), some (.int v7), some (.int v8), some (.int v9), some (.int v10), none] [(.int 1)] m K))) : V m12_make 307 [some (.ref 668), some (.int v1), some (.int v2), some (.int v3), some (.int v4), some (.int v5), some (.int v6), some (.int v7), some (.int v8), some (.int v9), some (.int v10), none] [(.int s0)] m K := by
  refine r_istore (y := m12_make) (L' := [some (.ref 668), some (.int v1), some (.int v2), some (.int v3), some (.int v4), some (.int v5), some (.int s0), some (.int v7), some (.int v8), some (.int v9), some (.int v10), none]) dX12_make_307 (Nat.le_of_ble_eq_true rfl) rfl ?_
  refine r_iload (y := m12_make) dX12_make_309 rfl ?_
  refine r_if_le (y := m12_make) (tgt := 318) dX12_make_311 (by decide) (fun hc1 => ?_) (fun hc1 => ?_)
  · have h := h.1 hc1
    refine r_iconst (y := m12_make) (v := 0) dX12_make_318 (by decide) ?_
    exact h
  · have h := h.2 hc1
    refine r_iconst (y := m12_make) (v := 1) dX12_make_314 (by decide) ?_
    refine r_goto (y := m12_make) (tgt := 319) dX12_make_315 (by decide) ?_
    exact h
set_option maxHeartbeats 4000000 in
set_option maxRecDepth 100000 in
theorem u12_make_319 {m : Mm} {K : Option Value ⊕ String → Mm → Prop} (hm : St m) {v1 : Int32} {v2 : Int32} {v3 : Int32} {v4 : Int32} {v5 : Int32} {v6 : Int32} {v7 : Int32} {v8 : Int32} {v9 : Int32} {v10 : Int32} {s0 : Int32}  (h : V m12_make 12 [some (.ref 668), some (.int v1), some (.int v2), some (.int v3), some (.int v4), some (.int v5), some (.int v6), some (.int s0), some (.int v8), some (.int v9), some (.int v10), none] [] m K) : V m12_make 319 [some (.ref 668), some (.int v1), some (.int v2), some (.int v3), some (.int v4), some (.int v5), some (.int v6), some (.int v7), some (.int v8), some (.int v9), some (.int v10), none] [(.int s0)] m K := by
  refine r_istore (y := m12_make) (L' := [some (.ref 668), some (.int v1), some (.int v2), some (.int v3), some (.int v4), some (.int v5), some (.int v6), some (.int s0), some (.int v8), some (.int v9), some (.int v10), none]) dX12_make_319 (Nat.le_of_ble_eq_true rfl) rfl ?_
  refine r_goto (y := m12_make) (tgt := 12) dX12_make_321 (by decide) ?_
  exact h
set_option maxHeartbeats 4000000 in
set_option maxRecDepth 100000 in
theorem u12_endSame {m : Mm} {K : Option Value ⊕ String → Mm → Prop} (hm : St m) {a0 : Int32}  (h : vp_in a0 6000 ∧ vp_in a0 6000 ∧ vp_in a0 6000 ∧ C m12_pair [(.ref 668), (.int (mI m 679 (Int32.toNatClampNeg a0))), (.int (mI m 680 (Int32.toNatClampNeg a0)))] (mSetI m 668 42 0) (fun o m4 => o = .inl none ∧ St m4 ∧ V m12_endSame 42 [some (.ref 668), some (.int a0), some (.int (mI m 681 (Int32.toNatClampNeg a0))), some (.int (mI m 668 31)), some (.int (mI m 668 24)), some (.int 1), none, none] [] m4 K)) : V m12_endSame 0 [some (.ref 668), some (.int a0), none, none, none, none, none, none] [] m K := by
  refine r_aload_n (y := m12_endSame) dX12_endSame_0 rfl rfl ?_
  refine g_X12_47 (y := m12_endSame) rfl dX12_endSame_1 hm ?_
  refine r_iload_n (y := m12_endSame) dX12_endSame_4 rfl rfl ?_
  obtain ⟨hb1, h⟩ := h
  refine r_iald (y := m12_endSame) (n := 6000) dX12_endSame_5 (sa_681 hm) hb1 ?_
  refine r_istore_n (y := m12_endSame) (L' := [some (.ref 668), some (.int a0), some (.int (mI m 681 (Int32.toNatClampNeg a0))), none, none, none, none, none]) dX12_endSame_6 rfl (Nat.le_of_ble_eq_true rfl) rfl ?_
  refine r_aload_n (y := m12_endSame) dX12_endSame_7 rfl rfl ?_
  refine g_X12_251 (y := m12_endSame) rfl dX12_endSame_8 hm ?_
  refine r_istore_n (y := m12_endSame) (L' := [some (.ref 668), some (.int a0), some (.int (mI m 681 (Int32.toNatClampNeg a0))), some (.int (mI m 668 31)), none, none, none, none]) dX12_endSame_11 rfl (Nat.le_of_ble_eq_true rfl) rfl ?_
  refine r_aload_n (y := m12_endSame) dX12_endSame_12 rfl rfl ?_
  refine g_X12_239 (y := m12_endSame) rfl dX12_endSame_13 hm ?_
  refine r_istore (y := m12_endSame) (L' := [some (.ref 668), some (.int a0), some (.int (mI m 681 (Int32.toNatClampNeg a0))), some (.int (mI m 668 31)), some (.int (mI m 668 24)), none, none, none]) dX12_endSame_16 (Nat.le_of_ble_eq_true rfl) rfl ?_
  refine r_iconst (y := m12_endSame) (v := 1) dX12_endSame_18 (by decide) ?_
  refine r_istore (y := m12_endSame) (L' := [some (.ref 668), some (.int a0), some (.int (mI m 681 (Int32.toNatClampNeg a0))), some (.int (mI m 668 31)), some (.int (mI m 668 24)), some (.int 1), none, none]) dX12_endSame_19 (Nat.le_of_ble_eq_true rfl) rfl ?_
  refine r_aload_n (y := m12_endSame) dX12_endSame_21 rfl rfl ?_
  refine r_iconst (y := m12_endSame) (v := 0) dX12_endSame_22 (by decide) ?_
  refine p_X12_296 (y := m12_endSame) rfl dX12_endSame_23 hm ?_
  refine r_aload_n (y := m12_endSame) dX12_endSame_26 rfl rfl ?_
  refine r_aload_n (y := m12_endSame) dX12_endSame_27 rfl rfl ?_
  refine g_X12_41 (y := m12_endSame) rfl dX12_endSame_28 (St.i hm) ?_
  refine r_iload_n (y := m12_endSame) dX12_endSame_31 rfl rfl ?_
  obtain ⟨hb2, h⟩ := h
  refine r_iald (y := m12_endSame) (n := 6000) dX12_endSame_32 (sa_679 (St.i hm)) hb2 ?_
  refine V.top (b := (mI m 679 (Int32.toNatClampNeg a0))) (by first | rfl | simp [mI_set, mI_setR]) ?_
  refine r_aload_n (y := m12_endSame) dX12_endSame_33 rfl rfl ?_
  refine g_X12_44 (y := m12_endSame) rfl dX12_endSame_34 (St.i hm) ?_
  refine r_iload_n (y := m12_endSame) dX12_endSame_37 rfl rfl ?_
  obtain ⟨hb3, h⟩ := h
  refine r_iald (y := m12_endSame) (n := 6000) dX12_endSame_38 (sa_680 (St.i hm)) hb3 ?_
  refine V.top (b := (mI m 680 (Int32.toNatClampNeg a0))) (by first | rfl | simp [mI_set, mI_setR]) ?_
  refine r_callV (y := m12_endSame) (As := [(.int (mI m 679 (Int32.toNatClampNeg a0))), (.int (mI m 680 (Int32.toNatClampNeg a0)))]) (b := 668) (ci := 12) dX12_endSame_39 rfl k12_pair lm_X12_305 rfl ⟨by decide, by decide⟩ (so_668 (St.i hm)) (by decide) rfl (Nat.le_of_ble_eq_true rfl) (C.mono h ?_)
  rintro _ m4 ⟨rfl, hm5, h⟩
  refine ⟨none, rfl, ?_⟩
  exact h
set_option maxHeartbeats 4000000 in
set_option maxRecDepth 100000 in
theorem u12_endSame_42 {m : Mm} {K : Option Value ⊕ String → Mm → Prop} (hm : St m) {v1 : Int32} {v2 : Int32} {v3 : Int32} {v4 : Int32} {v5 : Int32}  (h : ((v5 = 0 → V m12_endSame 301 [some (.ref 668), some (.int v1), some (.int v2), some (.int v3), some (.int v4), some (.int v5), none, none] [] m K) ∧ (¬ v5 = 0 → (((mI m 668 42) ≤ 0 → V m12_endSame 301 [some (.ref 668), some (.int v1), some (.int v2), some (.int v3), some (.int v4), some (.int v5), none, none] [] m K) ∧ (¬ (mI m 668 42) ≤ 0 → vp_in ((mI m 668 42) - 1) 6000 ∧ C m12_root [(.ref 668), (.int (mI m 699 (Int32.toNatClampNeg ((mI m 668 42) - 1))))] (mSetI m 668 42 ((mI m 668 42) - 1)) (fun o m4 => ∃ x6 : Int32, o = .inl (some (.int x6)) ∧ St m4 ∧ vp_in (mI m4 668 42) 6000 ∧ C m12_root [(.ref 668), (.int (mI m4 700 (Int32.toNatClampNeg (mI m4 668 42))))] m4 (fun o m8 => ∃ x10 : Int32, o = .inl (some (.int x10)) ∧ St m8 ∧ ((x6 = x10 → V m12_endSame 298 [some (.ref 668), some (.int v1), some (.int v2), some (.int v3), some (.int v4), some (.int v5), some (.int x6), some (.int x10)] [] m8 K) ∧ (¬ x6 = x10 → C m12_step [(.ref 668)] m8 (fun o m12 => o = .inl none ∧ St m12 ∧ (((mI m12 668 29) = 0 → vp_in x6 6000 ∧ ((¬ (mI m12 677 (Int32.toNatClampNeg x6)) = 0 → vp_in x10 6000 ∧ ((¬ (mI m12 677 (Int32.toNatClampNeg x10)) = 0 → vp_in x6 6000 ∧ vp_in x10 6000 ∧ (((mI m12 678 (Int32.toNatClampNeg x6)) = (mI m12 678 (Int32.toNatClampNeg x10)) → vp_in x6 6000 ∧ vp_in x10 6000 ∧ C m12_pair [(.ref 668), (.int (mI m12 680 (Int32.toNatClampNeg x6))), (.int (mI m12 680 (Int32.toNatClampNeg x10)))] m12 (fun o m24 => o = .inl none ∧ St m24 ∧ vp_in x6 6000 ∧ vp_in x10 6000 ∧ C m12_pair [(.ref 668), (.int (mI m24 679 (Int32.toNatClampNeg x6))), (.int (mI m24 679 (Int32.toNatClampNeg x10)))] m24 (fun o m28 => o = .inl none ∧ St m28 ∧ V m12_endSame 262 [some (.ref 668), some (.int v1), some (.int v2), some (.int v3), some (.int v4), some (.int v5), some (.int x6), some (.int x10)] [] m28 K))) ∧ (¬ (mI m12 678 (Int32.toNatClampNeg x6)) = (mI m12 678 (Int32.toNatClampNeg x10)) → C m12_fail [(.ref 668), (.int v2)] m12 (fun o m30 => o = .inl none ∧ St m30 ∧ V m12_endSame 262 [some (.ref 668), some (.int v1), some (.int v2), some (.int v3), some (.int v4), some (.int 0), some (.int x6), some (.int x10)] [] m30 K)))) ∧ ((mI m12 677 (Int32.toNatClampNeg x10)) = 0 → C m12_isIn [(.ref 668), (.int x10), (.int x6)] m12 (fun o m32 => ∃ x34 : Int32, o = .inl (some (.int x34)) ∧ St m32 ∧ ((¬ x34 = 0 → V m12_endSame 184 [some (.ref 668), some (.int v1), some (.int v2), some (.int v3), some (.int v4), some (.int v5), some (.int x6), some (.int x10)] [(.int 0)] m32 K) ∧ (x34 = 0 → V m12_endSame 184 [some (.ref 668), some (.int v1), some (.int v2), some (.int v3), some (.int v4), some (.int v5), some (.int x6), some (.int x10)] [(.int 1)] m32 K)))))) ∧ ((mI m12 677 (Int32.toNatClampNeg x6)) = 0 → C m12_isIn [(.ref 668), (.int x6), (.int x10)] m12 (fun o m36 => ∃ x38 : Int32, o = .inl (some (.int x38)) ∧ St m36 ∧ ((¬ x38 = 0 → V m12_endSame 144 [some (.ref 668), some (.int v1), some (.int v2), some (.int v3), some (.int v4), some (.int v5), some (.int x6), some (.int x10)] [(.int 0)] m36 K) ∧ (x38 = 0 → V m12_endSame 144 [some (.ref 668), some (.int v1), some (.int v2), some (.int v3), some (.int v4), some (.int v5), some (.int x6), some (.int x10)] [(.int 1)] m36 K)))))) ∧ (¬ (mI m12 668 29) = 0 → V m12_endSame 262 [some (.ref 668), some (.int v1), some (.int v2), some (.int v3), some (.int v4), some (.int 0), some (.int x6), some (.int x10)] [] m12 K)))))))))))) : V m12_endSame 42 [some (.ref 668), some (.int v1), some (.int v2), some (.int v3), some (.int v4), some (.int v5), none, none] [] m K := by
  refine r_iload (y := m12_endSame) dX12_endSame_42 rfl ?_
  refine r_if_eq (y := m12_endSame) (tgt := 301) dX12_endSame_44 (by decide) (fun hc1 => ?_) (fun hc1 => ?_)
  · have h := h.1 hc1
    exact h
  · have h := h.2 hc1
    refine r_aload_n (y := m12_endSame) dX12_endSame_47 rfl rfl ?_
    refine g_X12_296 (y := m12_endSame) rfl dX12_endSame_48 hm ?_
    refine r_if_le (y := m12_endSame) (tgt := 301) dX12_endSame_51 (by decide) (fun hc2 => ?_) (fun hc2 => ?_)
    · have h := h.1 hc2
      exact h
    · have h := h.2 hc2
      refine r_aload_n (y := m12_endSame) dX12_endSame_54 rfl rfl ?_
      refine r_dup_r (y := m12_endSame) dX12_endSame_55 ?_
      refine g_X12_296 (y := m12_endSame) rfl dX12_endSame_56 hm ?_
      refine r_iconst (y := m12_endSame) (v := 1) dX12_endSame_59 (by decide) ?_
      refine r_isub (y := m12_endSame) dX12_endSame_60 ?_
      refine p_X12_296 (y := m12_endSame) rfl dX12_endSame_61 hm ?_
      refine r_aload_n (y := m12_endSame) dX12_endSame_64 rfl rfl ?_
      refine r_aload_n (y := m12_endSame) dX12_endSame_65 rfl rfl ?_
      refine g_X12_101 (y := m12_endSame) rfl dX12_endSame_66 (St.i hm) ?_
      refine r_aload_n (y := m12_endSame) dX12_endSame_69 rfl rfl ?_
      refine g_X12_296 (y := m12_endSame) rfl dX12_endSame_70 (St.i hm) ?_
      refine V.top (b := ((mI m 668 42) - 1)) (by first | rfl | simp [mI_set, mI_setR]) ?_
      obtain ⟨hb3, h⟩ := h
      refine r_iald (y := m12_endSame) (n := 6000) dX12_endSame_73 (sa_699 (St.i hm)) hb3 ?_
      refine V.top (b := (mI m 699 (Int32.toNatClampNeg ((mI m 668 42) - 1)))) (by first | rfl | simp [mI_set, mI_setR]) ?_
      refine r_callV (y := m12_endSame) (As := [(.int (mI m 699 (Int32.toNatClampNeg ((mI m 668 42) - 1))))]) (b := 668) (ci := 12) dX12_endSame_74 rfl k12_root lm_X12_280 rfl ⟨by decide, by decide⟩ (so_668 (St.i hm)) (by decide) rfl (Nat.le_of_ble_eq_true rfl) (C.mono h ?_)
      rintro _ m4 ⟨x6, rfl, hm5, h⟩
      refine ⟨_, rfl, ?_⟩
      refine r_istore (y := m12_endSame) (L' := [some (.ref 668), some (.int v1), some (.int v2), some (.int v3), some (.int v4), some (.int v5), some (.int x6), none]) dX12_endSame_77 (Nat.le_of_ble_eq_true rfl) rfl ?_
      refine r_aload_n (y := m12_endSame) dX12_endSame_79 rfl rfl ?_
      refine r_aload_n (y := m12_endSame) dX12_endSame_80 rfl rfl ?_
      refine g_X12_104 (y := m12_endSame) rfl dX12_endSame_81 hm5 ?_
      refine r_aload_n (y := m12_endSame) dX12_endSame_84 rfl rfl ?_
      refine g_X12_296 (y := m12_endSame) rfl dX12_endSame_85 hm5 ?_
      obtain ⟨hb7, h⟩ := h
      refine r_iald (y := m12_endSame) (n := 6000) dX12_endSame_88 (sa_700 hm5) hb7 ?_
      refine r_callV (y := m12_endSame) (As := [(.int (mI m4 700 (Int32.toNatClampNeg (mI m4 668 42))))]) (b := 668) (ci := 12) dX12_endSame_89 rfl k12_root lm_X12_280 rfl ⟨by decide, by decide⟩ (so_668 hm5) (by decide) rfl (Nat.le_of_ble_eq_true rfl) (C.mono h ?_)
      rintro _ m8 ⟨x10, rfl, hm9, h⟩
      refine ⟨_, rfl, ?_⟩
      refine r_istore (y := m12_endSame) (L' := [some (.ref 668), some (.int v1), some (.int v2), some (.int v3), some (.int v4), some (.int v5), some (.int x6), some (.int x10)]) dX12_endSame_92 (Nat.le_of_ble_eq_true rfl) rfl ?_
      refine r_iload (y := m12_endSame) dX12_endSame_94 rfl ?_
      refine r_iload (y := m12_endSame) dX12_endSame_96 rfl ?_
      refine r_icmp_eq (y := m12_endSame) (tgt := 298) dX12_endSame_98 (by decide) (fun hc11 => ?_) (fun hc11 => ?_)
      · have h := h.1 hc11
        exact h
      · have h := h.2 hc11
        refine r_aload_n (y := m12_endSame) dX12_endSame_101 rfl rfl ?_
        refine r_callV (y := m12_endSame) (As := []) (b := 668) (ci := 12) dX12_endSame_102 rfl k12_step lm_X12_254 rfl ⟨by decide, by decide⟩ (so_668 hm9) (by decide) rfl (Nat.le_of_ble_eq_true rfl) (C.mono h ?_)
        rintro _ m12 ⟨rfl, hm13, h⟩
        refine ⟨none, rfl, ?_⟩
        refine r_aload_n (y := m12_endSame) dX12_endSame_105 rfl rfl ?_
        refine g_X12_245 (y := m12_endSame) rfl dX12_endSame_106 hm13 ?_
        refine r_if_eq (y := m12_endSame) (tgt := 118) dX12_endSame_109 (by decide) (fun hc14 => ?_) (fun hc14 => ?_)
        · have h := h.1 hc14
          refine r_aload_n (y := m12_endSame) dX12_endSame_118 rfl rfl ?_
          refine g_X12_35 (y := m12_endSame) rfl dX12_endSame_119 hm13 ?_
          refine r_iload (y := m12_endSame) dX12_endSame_122 rfl ?_
          obtain ⟨hb15, h⟩ := h
          refine r_iald (y := m12_endSame) (n := 6000) dX12_endSame_124 (sa_677 hm13) hb15 ?_
          refine r_if_ne (y := m12_endSame) (tgt := 158) dX12_endSame_125 (by decide) (fun hc16 => ?_) (fun hc16 => ?_)
          · have h := h.1 hc16
            refine r_aload_n (y := m12_endSame) dX12_endSame_158 rfl rfl ?_
            refine g_X12_35 (y := m12_endSame) rfl dX12_endSame_159 hm13 ?_
            refine r_iload (y := m12_endSame) dX12_endSame_162 rfl ?_
            obtain ⟨hb17, h⟩ := h
            refine r_iald (y := m12_endSame) (n := 6000) dX12_endSame_164 (sa_677 hm13) hb17 ?_
            refine r_if_ne (y := m12_endSame) (tgt := 198) dX12_endSame_165 (by decide) (fun hc18 => ?_) (fun hc18 => ?_)
            · have h := h.1 hc18
              refine r_aload_n (y := m12_endSame) dX12_endSame_198 rfl rfl ?_
              refine g_X12_38 (y := m12_endSame) rfl dX12_endSame_199 hm13 ?_
              refine r_iload (y := m12_endSame) dX12_endSame_202 rfl ?_
              obtain ⟨hb19, h⟩ := h
              refine r_iald (y := m12_endSame) (n := 6000) dX12_endSame_204 (sa_678 hm13) hb19 ?_
              refine r_aload_n (y := m12_endSame) dX12_endSame_205 rfl rfl ?_
              refine g_X12_38 (y := m12_endSame) rfl dX12_endSame_206 hm13 ?_
              refine r_iload (y := m12_endSame) dX12_endSame_209 rfl ?_
              obtain ⟨hb20, h⟩ := h
              refine r_iald (y := m12_endSame) (n := 6000) dX12_endSame_211 (sa_678 hm13) hb20 ?_
              refine r_icmp_eq (y := m12_endSame) (tgt := 226) dX12_endSame_212 (by decide) (fun hc21 => ?_) (fun hc21 => ?_)
              · have h := h.1 hc21
                refine r_aload_n (y := m12_endSame) dX12_endSame_226 rfl rfl ?_
                refine r_aload_n (y := m12_endSame) dX12_endSame_227 rfl rfl ?_
                refine g_X12_44 (y := m12_endSame) rfl dX12_endSame_228 hm13 ?_
                refine r_iload (y := m12_endSame) dX12_endSame_231 rfl ?_
                obtain ⟨hb22, h⟩ := h
                refine r_iald (y := m12_endSame) (n := 6000) dX12_endSame_233 (sa_680 hm13) hb22 ?_
                refine r_aload_n (y := m12_endSame) dX12_endSame_234 rfl rfl ?_
                refine g_X12_44 (y := m12_endSame) rfl dX12_endSame_235 hm13 ?_
                refine r_iload (y := m12_endSame) dX12_endSame_238 rfl ?_
                obtain ⟨hb23, h⟩ := h
                refine r_iald (y := m12_endSame) (n := 6000) dX12_endSame_240 (sa_680 hm13) hb23 ?_
                refine r_callV (y := m12_endSame) (As := [(.int (mI m12 680 (Int32.toNatClampNeg x6))), (.int (mI m12 680 (Int32.toNatClampNeg x10)))]) (b := 668) (ci := 12) dX12_endSame_241 rfl k12_pair lm_X12_305 rfl ⟨by decide, by decide⟩ (so_668 hm13) (by decide) rfl (Nat.le_of_ble_eq_true rfl) (C.mono h ?_)
                rintro _ m24 ⟨rfl, hm25, h⟩
                refine ⟨none, rfl, ?_⟩
                refine r_aload_n (y := m12_endSame) dX12_endSame_244 rfl rfl ?_
                refine r_aload_n (y := m12_endSame) dX12_endSame_245 rfl rfl ?_
                refine g_X12_41 (y := m12_endSame) rfl dX12_endSame_246 hm25 ?_
                refine r_iload (y := m12_endSame) dX12_endSame_249 rfl ?_
                obtain ⟨hb26, h⟩ := h
                refine r_iald (y := m12_endSame) (n := 6000) dX12_endSame_251 (sa_679 hm25) hb26 ?_
                refine r_aload_n (y := m12_endSame) dX12_endSame_252 rfl rfl ?_
                refine g_X12_41 (y := m12_endSame) rfl dX12_endSame_253 hm25 ?_
                refine r_iload (y := m12_endSame) dX12_endSame_256 rfl ?_
                obtain ⟨hb27, h⟩ := h
                refine r_iald (y := m12_endSame) (n := 6000) dX12_endSame_258 (sa_679 hm25) hb27 ?_
                refine r_callV (y := m12_endSame) (As := [(.int (mI m24 679 (Int32.toNatClampNeg x6))), (.int (mI m24 679 (Int32.toNatClampNeg x10)))]) (b := 668) (ci := 12) dX12_endSame_259 rfl k12_pair lm_X12_305 rfl ⟨by decide, by decide⟩ (so_668 hm25) (by decide) rfl (Nat.le_of_ble_eq_true rfl) (C.mono h ?_)
                rintro _ m28 ⟨rfl, hm29, h⟩
                refine ⟨none, rfl, ?_⟩
                exact h
              · have h := h.2 hc21
                refine r_iconst (y := m12_endSame) (v := 0) dX12_endSame_215 (by decide) ?_
                refine r_istore (y := m12_endSame) (L' := [some (.ref 668), some (.int v1), some (.int v2), some (.int v3), some (.int v4), some (.int 0), some (.int x6), some (.int x10)]) dX12_endSame_216 (Nat.le_of_ble_eq_true rfl) rfl ?_
                refine r_aload_n (y := m12_endSame) dX12_endSame_218 rfl rfl ?_
                refine r_iload_n (y := m12_endSame) dX12_endSame_219 rfl rfl ?_
                refine r_callV (y := m12_endSame) (As := [(.int v2)]) (b := 668) (ci := 12) dX12_endSame_220 rfl k12_fail lm_X12_270 rfl ⟨by decide, by decide⟩ (so_668 hm13) (by decide) rfl (Nat.le_of_ble_eq_true rfl) (C.mono h ?_)
                rintro _ m30 ⟨rfl, hm31, h⟩
                refine ⟨none, rfl, ?_⟩
                refine r_goto (y := m12_endSame) (tgt := 262) dX12_endSame_223 (by decide) ?_
                exact h
            · have h := h.2 hc18
              refine r_aload_n (y := m12_endSame) dX12_endSame_168 rfl rfl ?_
              refine r_iload (y := m12_endSame) dX12_endSame_169 rfl ?_
              refine r_iload (y := m12_endSame) dX12_endSame_171 rfl ?_
              refine r_callV (y := m12_endSame) (As := [(.int x10), (.int x6)]) (b := 668) (ci := 12) dX12_endSame_173 rfl k12_isIn lm_X12_302 rfl ⟨by decide, by decide⟩ (so_668 hm13) (by decide) rfl (Nat.le_of_ble_eq_true rfl) (C.mono h ?_)
              rintro _ m32 ⟨x34, rfl, hm33, h⟩
              refine ⟨_, rfl, ?_⟩
              refine r_if_ne (y := m12_endSame) (tgt := 183) dX12_endSame_176 (by decide) (fun hc35 => ?_) (fun hc35 => ?_)
              · have h := h.1 hc35
                refine r_iconst (y := m12_endSame) (v := 0) dX12_endSame_183 (by decide) ?_
                exact h
              · have h := h.2 hc35
                refine r_iconst (y := m12_endSame) (v := 1) dX12_endSame_179 (by decide) ?_
                refine r_goto (y := m12_endSame) (tgt := 184) dX12_endSame_180 (by decide) ?_
                exact h
          · have h := h.2 hc16
            refine r_aload_n (y := m12_endSame) dX12_endSame_128 rfl rfl ?_
            refine r_iload (y := m12_endSame) dX12_endSame_129 rfl ?_
            refine r_iload (y := m12_endSame) dX12_endSame_131 rfl ?_
            refine r_callV (y := m12_endSame) (As := [(.int x6), (.int x10)]) (b := 668) (ci := 12) dX12_endSame_133 rfl k12_isIn lm_X12_302 rfl ⟨by decide, by decide⟩ (so_668 hm13) (by decide) rfl (Nat.le_of_ble_eq_true rfl) (C.mono h ?_)
            rintro _ m36 ⟨x38, rfl, hm37, h⟩
            refine ⟨_, rfl, ?_⟩
            refine r_if_ne (y := m12_endSame) (tgt := 143) dX12_endSame_136 (by decide) (fun hc39 => ?_) (fun hc39 => ?_)
            · have h := h.1 hc39
              refine r_iconst (y := m12_endSame) (v := 0) dX12_endSame_143 (by decide) ?_
              exact h
            · have h := h.2 hc39
              refine r_iconst (y := m12_endSame) (v := 1) dX12_endSame_139 (by decide) ?_
              refine r_goto (y := m12_endSame) (tgt := 144) dX12_endSame_140 (by decide) ?_
              exact h
        · have h := h.2 hc14
          refine r_iconst (y := m12_endSame) (v := 0) dX12_endSame_112 (by decide) ?_
          refine r_istore (y := m12_endSame) (L' := [some (.ref 668), some (.int v1), some (.int v2), some (.int v3), some (.int v4), some (.int 0), some (.int x6), some (.int x10)]) dX12_endSame_113 (Nat.le_of_ble_eq_true rfl) rfl ?_
          refine r_goto (y := m12_endSame) (tgt := 262) dX12_endSame_115 (by decide) ?_
          exact h
set_option maxHeartbeats 4000000 in
set_option maxRecDepth 100000 in
theorem u12_endSame_301 {m : Mm} {K : Option Value ⊕ String → Mm → Prop} (hm : St m) {v1 : Int32} {v2 : Int32} {v3 : Int32} {v4 : Int32} {v5 : Int32}  (h : ((v5 = 0 → V m12_endSame 312 [some (.ref 668), some (.int v1), some (.int v2), some (.int v3), some (.int v4), some (.int v5), none, none] [] m K) ∧ (¬ v5 = 0 → C m12_becomeData [(.ref 668), (.int v1), (.int 1)] m (fun o m2 => o = .inl none ∧ St m2 ∧ V m12_endSame 312 [some (.ref 668), some (.int v1), some (.int v2), some (.int v3), some (.int v4), some (.int v5), none, none] [] m2 K)))) : V m12_endSame 301 [some (.ref 668), some (.int v1), some (.int v2), some (.int v3), some (.int v4), some (.int v5), none, none] [] m K := by
  refine r_iload (y := m12_endSame) dX12_endSame_301 rfl ?_
  refine r_if_eq (y := m12_endSame) (tgt := 312) dX12_endSame_303 (by decide) (fun hc1 => ?_) (fun hc1 => ?_)
  · have h := h.1 hc1
    exact h
  · have h := h.2 hc1
    refine r_aload_n (y := m12_endSame) dX12_endSame_306 rfl rfl ?_
    refine r_iload_n (y := m12_endSame) dX12_endSame_307 rfl rfl ?_
    refine r_iconst (y := m12_endSame) (v := 1) dX12_endSame_308 (by decide) ?_
    refine r_callV (y := m12_endSame) (As := [(.int v1), (.int 1)]) (b := 668) (ci := 12) dX12_endSame_309 rfl k12_becomeData lm_X12_267 rfl ⟨by decide, by decide⟩ (so_668 hm) (by decide) rfl (Nat.le_of_ble_eq_true rfl) (C.mono h ?_)
    rintro _ m2 ⟨rfl, hm3, h⟩
    refine ⟨none, rfl, ?_⟩
    exact h
set_option maxHeartbeats 4000000 in
set_option maxRecDepth 100000 in
theorem u12_endSame_298 {m : Mm} {K : Option Value ⊕ String → Mm → Prop} (hm : St m) {v1 : Int32} {v2 : Int32} {v3 : Int32} {v4 : Int32} {v5 : Int32} {v6 : Int32} {v7 : Int32}  (h : V m12_endSame 42 [some (.ref 668), some (.int v1), some (.int v2), some (.int v3), some (.int v4), some (.int v5), some (.int v6), some (.int v7)] [] m K) : V m12_endSame 298 [some (.ref 668), some (.int v1), some (.int v2), some (.int v3), some (.int v4), some (.int v5), some (.int v6), some (.int v7)] [] m K := by
  refine r_goto (y := m12_endSame) (tgt := 42) dX12_endSame_298 (by decide) ?_
  exact h
set_option maxHeartbeats 4000000 in
set_option maxRecDepth 100000 in
theorem u12_endSame_262 {m : Mm} {K : Option Value ⊕ String → Mm → Prop} (hm : St m) {v1 : Int32} {v2 : Int32} {v3 : Int32} {v4 : Int32} {v5 : Int32} {v6 : Int32} {v7 : Int32}  (h : ((v5 = 0 → V m12_endSame 295 [some (.ref 668), some (.int v1), some (.int v2), some (.int v3), some (.int v4), some (.int v5), some (.int v6), some (.int v7)] [] m K) ∧ (¬ v5 = 0 → ((¬ (mI m 668 29) = 0 → V m12_endSame 295 [some (.ref 668), some (.int v1), some (.int v2), some (.int v3), some (.int v4), some (.int v5), some (.int v6), some (.int v7)] [] m K) ∧ ((mI m 668 29) = 0 → ((¬ (mI m 668 31) = v3 → V m12_endSame 295 [some (.ref 668), some (.int v1), some (.int v2), some (.int v3), some (.int v4), some (.int v5), some (.int v6), some (.int v7)] [] m K) ∧ ((mI m 668 31) = v3 → ((¬ (mI m 668 24) = v4 → V m12_endSame 295 [some (.ref 668), some (.int v1), some (.int v2), some (.int v3), some (.int v4), some (.int v5), some (.int v6), some (.int v7)] [] m K) ∧ ((mI m 668 24) = v4 → V m12_endSame 296 [some (.ref 668), some (.int v1), some (.int v2), some (.int v3), some (.int v4), some (.int v5), some (.int v6), some (.int v7)] [(.int 1)] m K))))))))) : V m12_endSame 262 [some (.ref 668), some (.int v1), some (.int v2), some (.int v3), some (.int v4), some (.int v5), some (.int v6), some (.int v7)] [] m K := by
  refine r_iload (y := m12_endSame) dX12_endSame_262 rfl ?_
  refine r_if_eq (y := m12_endSame) (tgt := 295) dX12_endSame_264 (by decide) (fun hc1 => ?_) (fun hc1 => ?_)
  · have h := h.1 hc1
    exact h
  · have h := h.2 hc1
    refine r_aload_n (y := m12_endSame) dX12_endSame_267 rfl rfl ?_
    refine g_X12_245 (y := m12_endSame) rfl dX12_endSame_268 hm ?_
    refine r_if_ne (y := m12_endSame) (tgt := 295) dX12_endSame_271 (by decide) (fun hc2 => ?_) (fun hc2 => ?_)
    · have h := h.1 hc2
      exact h
    · have h := h.2 hc2
      refine r_aload_n (y := m12_endSame) dX12_endSame_274 rfl rfl ?_
      refine g_X12_251 (y := m12_endSame) rfl dX12_endSame_275 hm ?_
      refine r_iload_n (y := m12_endSame) dX12_endSame_278 rfl rfl ?_
      refine r_icmp_ne (y := m12_endSame) (tgt := 295) dX12_endSame_279 (by decide) (fun hc3 => ?_) (fun hc3 => ?_)
      · have h := h.1 hc3
        exact h
      · have h := h.2 hc3
        refine r_aload_n (y := m12_endSame) dX12_endSame_282 rfl rfl ?_
        refine g_X12_239 (y := m12_endSame) rfl dX12_endSame_283 hm ?_
        refine r_iload (y := m12_endSame) dX12_endSame_286 rfl ?_
        refine r_icmp_ne (y := m12_endSame) (tgt := 295) dX12_endSame_288 (by decide) (fun hc4 => ?_) (fun hc4 => ?_)
        · have h := h.1 hc4
          exact h
        · have h := h.2 hc4
          refine r_iconst (y := m12_endSame) (v := 1) dX12_endSame_291 (by decide) ?_
          refine r_goto (y := m12_endSame) (tgt := 296) dX12_endSame_292 (by decide) ?_
          exact h
set_option maxHeartbeats 4000000 in
set_option maxRecDepth 100000 in
theorem u12_endSame_184 {m : Mm} {K : Option Value ⊕ String → Mm → Prop} (hm : St m) {v1 : Int32} {v2 : Int32} {v3 : Int32} {v4 : Int32} {v5 : Int32} {v6 : Int32} {v7 : Int32} {s0 : Int32}  (h : C m12_bind [(.ref 668), (.int v7), (.int v6), (.int v2)] m (fun o m1 => o = .inl none ∧ St m1 ∧ V m12_endSame 262 [some (.ref 668), some (.int v1), some (.int v2), some (.int v3), some (.int v4), some (.int s0), some (.int v6), some (.int v7)] [] m1 K)) : V m12_endSame 184 [some (.ref 668), some (.int v1), some (.int v2), some (.int v3), some (.int v4), some (.int v5), some (.int v6), some (.int v7)] [(.int s0)] m K := by
  refine r_istore (y := m12_endSame) (L' := [some (.ref 668), some (.int v1), some (.int v2), some (.int v3), some (.int v4), some (.int s0), some (.int v6), some (.int v7)]) dX12_endSame_184 (Nat.le_of_ble_eq_true rfl) rfl ?_
  refine r_aload_n (y := m12_endSame) dX12_endSame_186 rfl rfl ?_
  refine r_iload (y := m12_endSame) dX12_endSame_187 rfl ?_
  refine r_iload (y := m12_endSame) dX12_endSame_189 rfl ?_
  refine r_iload_n (y := m12_endSame) dX12_endSame_191 rfl rfl ?_
  refine r_callV (y := m12_endSame) (As := [(.int v7), (.int v6), (.int v2)]) (b := 668) (ci := 12) dX12_endSame_192 rfl k12_bind lm_X12_308 rfl ⟨by decide, by decide⟩ (so_668 hm) (by decide) rfl (Nat.le_of_ble_eq_true rfl) (C.mono h ?_)
  rintro _ m1 ⟨rfl, hm2, h⟩
  refine ⟨none, rfl, ?_⟩
  refine r_goto (y := m12_endSame) (tgt := 262) dX12_endSame_195 (by decide) ?_
  exact h
set_option maxHeartbeats 4000000 in
set_option maxRecDepth 100000 in
theorem u12_endSame_144 {m : Mm} {K : Option Value ⊕ String → Mm → Prop} (hm : St m) {v1 : Int32} {v2 : Int32} {v3 : Int32} {v4 : Int32} {v5 : Int32} {v6 : Int32} {v7 : Int32} {s0 : Int32}  (h : C m12_bind [(.ref 668), (.int v6), (.int v7), (.int v2)] m (fun o m1 => o = .inl none ∧ St m1 ∧ V m12_endSame 262 [some (.ref 668), some (.int v1), some (.int v2), some (.int v3), some (.int v4), some (.int s0), some (.int v6), some (.int v7)] [] m1 K)) : V m12_endSame 144 [some (.ref 668), some (.int v1), some (.int v2), some (.int v3), some (.int v4), some (.int v5), some (.int v6), some (.int v7)] [(.int s0)] m K := by
  refine r_istore (y := m12_endSame) (L' := [some (.ref 668), some (.int v1), some (.int v2), some (.int v3), some (.int v4), some (.int s0), some (.int v6), some (.int v7)]) dX12_endSame_144 (Nat.le_of_ble_eq_true rfl) rfl ?_
  refine r_aload_n (y := m12_endSame) dX12_endSame_146 rfl rfl ?_
  refine r_iload (y := m12_endSame) dX12_endSame_147 rfl ?_
  refine r_iload (y := m12_endSame) dX12_endSame_149 rfl ?_
  refine r_iload_n (y := m12_endSame) dX12_endSame_151 rfl rfl ?_
  refine r_callV (y := m12_endSame) (As := [(.int v6), (.int v7), (.int v2)]) (b := 668) (ci := 12) dX12_endSame_152 rfl k12_bind lm_X12_308 rfl ⟨by decide, by decide⟩ (so_668 hm) (by decide) rfl (Nat.le_of_ble_eq_true rfl) (C.mono h ?_)
  rintro _ m1 ⟨rfl, hm2, h⟩
  refine ⟨none, rfl, ?_⟩
  refine r_goto (y := m12_endSame) (tgt := 262) dX12_endSame_155 (by decide) ?_
  exact h
set_option maxHeartbeats 4000000 in
set_option maxRecDepth 100000 in
theorem u12_endSame_312 {m : Mm} {K : Option Value ⊕ String → Mm → Prop} (hm : St m) {v1 : Int32} {v2 : Int32} {v3 : Int32} {v4 : Int32} {v5 : Int32}  (h : K (.inl none) m) : V m12_endSame 312 [some (.ref 668), some (.int v1), some (.int v2), some (.int v3), some (.int v4), some (.int v5), none, none] [] m K := by
  exact r_ret (y := m12_endSame) dX12_endSame_312 rfl h
set_option maxHeartbeats 4000000 in
set_option maxRecDepth 100000 in
theorem u12_endSame_295 {m : Mm} {K : Option Value ⊕ String → Mm → Prop} (hm : St m) {v1 : Int32} {v2 : Int32} {v3 : Int32} {v4 : Int32} {v5 : Int32} {v6 : Int32} {v7 : Int32}  (h : V m12_endSame 296 [some (.ref 668), some (.int v1), some (.int v2), some (.int v3), some (.int v4), some (.int v5), some (.int v6), some (.int v7)] [(.int 0)] m K) : V m12_endSame 295 [some (.ref 668), some (.int v1), some (.int v2), some (.int v3), some (.int v4), some (.int v5), some (.int v6), some (.int v7)] [] m K := by
  refine r_iconst (y := m12_endSame) (v := 0) dX12_endSame_295 (by decide) ?_
  exact h
set_option maxHeartbeats 4000000 in
set_option maxRecDepth 100000 in
theorem u12_endSame_296 {m : Mm} {K : Option Value ⊕ String → Mm → Prop} (hm : St m) {v1 : Int32} {v2 : Int32} {v3 : Int32} {v4 : Int32} {v5 : Int32} {v6 : Int32} {v7 : Int32} {s0 : Int32}  (h : V m12_endSame 298 [some (.ref 668), some (.int v1), some (.int v2), some (.int v3), some (.int v4), some (.int s0), some (.int v6), some (.int v7)] [] m K) : V m12_endSame 296 [some (.ref 668), some (.int v1), some (.int v2), some (.int v3), some (.int v4), some (.int v5), some (.int v6), some (.int v7)] [(.int s0)] m K := by
  refine r_istore (y := m12_endSame) (L' := [some (.ref 668), some (.int v1), some (.int v2), some (.int v3), some (.int v4), some (.int s0), some (.int v6), some (.int v7)]) dX12_endSame_296 (Nat.le_of_ble_eq_true rfl) rfl ?_
  exact h
set_option maxHeartbeats 4000000 in
set_option maxRecDepth 100000 in
theorem u12_endUnlike {m : Mm} {K : Option Value ⊕ String → Mm → Prop} (hm : St m) {a0 : Int32}  (h : vp_in a0 6000 ∧ vp_in a0 6000 ∧ C m12_pair [(.ref 668), (.int (mI m 679 (Int32.toNatClampNeg a0))), (.int (mI m 680 (Int32.toNatClampNeg a0)))] (mSetI m 668 42 0) (fun o m3 => o = .inl none ∧ St m3 ∧ V m12_endUnlike 23 [some (.ref 668), some (.int a0), some (.int 1), none, none] [] m3 K)) : V m12_endUnlike 0 [some (.ref 668), some (.int a0), none, none, none] [] m K := by
  refine r_iconst (y := m12_endUnlike) (v := 1) dX12_endUnlike_0 (by decide) ?_
  refine r_istore_n (y := m12_endUnlike) (L' := [some (.ref 668), some (.int a0), some (.int 1), none, none]) dX12_endUnlike_1 rfl (Nat.le_of_ble_eq_true rfl) rfl ?_
  refine r_aload_n (y := m12_endUnlike) dX12_endUnlike_2 rfl rfl ?_
  refine r_iconst (y := m12_endUnlike) (v := 0) dX12_endUnlike_3 (by decide) ?_
  refine p_X12_296 (y := m12_endUnlike) rfl dX12_endUnlike_4 hm ?_
  refine r_aload_n (y := m12_endUnlike) dX12_endUnlike_7 rfl rfl ?_
  refine r_aload_n (y := m12_endUnlike) dX12_endUnlike_8 rfl rfl ?_
  refine g_X12_41 (y := m12_endUnlike) rfl dX12_endUnlike_9 (St.i hm) ?_
  refine r_iload_n (y := m12_endUnlike) dX12_endUnlike_12 rfl rfl ?_
  obtain ⟨hb1, h⟩ := h
  refine r_iald (y := m12_endUnlike) (n := 6000) dX12_endUnlike_13 (sa_679 (St.i hm)) hb1 ?_
  refine V.top (b := (mI m 679 (Int32.toNatClampNeg a0))) (by first | rfl | simp [mI_set, mI_setR]) ?_
  refine r_aload_n (y := m12_endUnlike) dX12_endUnlike_14 rfl rfl ?_
  refine g_X12_44 (y := m12_endUnlike) rfl dX12_endUnlike_15 (St.i hm) ?_
  refine r_iload_n (y := m12_endUnlike) dX12_endUnlike_18 rfl rfl ?_
  obtain ⟨hb2, h⟩ := h
  refine r_iald (y := m12_endUnlike) (n := 6000) dX12_endUnlike_19 (sa_680 (St.i hm)) hb2 ?_
  refine V.top (b := (mI m 680 (Int32.toNatClampNeg a0))) (by first | rfl | simp [mI_set, mI_setR]) ?_
  refine r_callV (y := m12_endUnlike) (As := [(.int (mI m 679 (Int32.toNatClampNeg a0))), (.int (mI m 680 (Int32.toNatClampNeg a0)))]) (b := 668) (ci := 12) dX12_endUnlike_20 rfl k12_pair lm_X12_305 rfl ⟨by decide, by decide⟩ (so_668 (St.i hm)) (by decide) rfl (Nat.le_of_ble_eq_true rfl) (C.mono h ?_)
  rintro _ m3 ⟨rfl, hm4, h⟩
  refine ⟨none, rfl, ?_⟩
  exact h
set_option maxHeartbeats 4000000 in
set_option maxRecDepth 100000 in
theorem u12_endUnlike_23 {m : Mm} {K : Option Value ⊕ String → Mm → Prop} (hm : St m) {v1 : Int32} {v2 : Int32}  (h : ((v2 = 0 → V m12_endUnlike 186 [some (.ref 668), some (.int v1), some (.int v2), none, none] [] m K) ∧ (¬ v2 = 0 → ((¬ (mI m 668 29) = 0 → V m12_endUnlike 186 [some (.ref 668), some (.int v1), some (.int v2), none, none] [] m K) ∧ ((mI m 668 29) = 0 → (((mI m 668 42) ≤ 0 → V m12_endUnlike 186 [some (.ref 668), some (.int v1), some (.int v2), none, none] [] m K) ∧ (¬ (mI m 668 42) ≤ 0 → vp_in ((mI m 668 42) - 1) 6000 ∧ C m12_root [(.ref 668), (.int (mI m 699 (Int32.toNatClampNeg ((mI m 668 42) - 1))))] (mSetI m 668 42 ((mI m 668 42) - 1)) (fun o m5 => ∃ x7 : Int32, o = .inl (some (.int x7)) ∧ St m5 ∧ vp_in (mI m5 668 42) 6000 ∧ C m12_root [(.ref 668), (.int (mI m5 700 (Int32.toNatClampNeg (mI m5 668 42))))] m5 (fun o m9 => ∃ x11 : Int32, o = .inl (some (.int x11)) ∧ St m9 ∧ ((x7 = x11 → V m12_endUnlike 113 [some (.ref 668), some (.int v1), some (.int v2), some (.int x7), some (.int x11)] [] m9 K) ∧ (¬ x7 = x11 → vp_in x7 6000 ∧ (((mI m9 677 (Int32.toNatClampNeg x7)) = 0 → V m12_endUnlike 105 [some (.ref 668), some (.int v1), some (.int v2), some (.int x7), some (.int x11)] [] m9 K) ∧ (¬ (mI m9 677 (Int32.toNatClampNeg x7)) = 0 → vp_in x11 6000 ∧ ((¬ (mI m9 677 (Int32.toNatClampNeg x11)) = 0 → V m12_endUnlike 113 [some (.ref 668), some (.int v1), some (.int v2), some (.int x7), some (.int x11)] [] m9 K) ∧ ((mI m9 677 (Int32.toNatClampNeg x11)) = 0 → V m12_endUnlike 105 [some (.ref 668), some (.int v1), some (.int v2), some (.int x7), some (.int x11)] [] m9 K))))))))))))))) : V m12_endUnlike 23 [some (.ref 668), some (.int v1), some (.int v2), none, none] [] m K := by
  refine r_iload_n (y := m12_endUnlike) dX12_endUnlike_23 rfl rfl ?_
  refine r_if_eq (y := m12_endUnlike) (tgt := 186) dX12_endUnlike_24 (by decide) (fun hc1 => ?_) (fun hc1 => ?_)
  · have h := h.1 hc1
    exact h
  · have h := h.2 hc1
    refine r_aload_n (y := m12_endUnlike) dX12_endUnlike_27 rfl rfl ?_
    refine g_X12_245 (y := m12_endUnlike) rfl dX12_endUnlike_28 hm ?_
    refine r_if_ne (y := m12_endUnlike) (tgt := 186) dX12_endUnlike_31 (by decide) (fun hc2 => ?_) (fun hc2 => ?_)
    · have h := h.1 hc2
      exact h
    · have h := h.2 hc2
      refine r_aload_n (y := m12_endUnlike) dX12_endUnlike_34 rfl rfl ?_
      refine g_X12_296 (y := m12_endUnlike) rfl dX12_endUnlike_35 hm ?_
      refine r_if_le (y := m12_endUnlike) (tgt := 186) dX12_endUnlike_38 (by decide) (fun hc3 => ?_) (fun hc3 => ?_)
      · have h := h.1 hc3
        exact h
      · have h := h.2 hc3
        refine r_aload_n (y := m12_endUnlike) dX12_endUnlike_41 rfl rfl ?_
        refine r_dup_r (y := m12_endUnlike) dX12_endUnlike_42 ?_
        refine g_X12_296 (y := m12_endUnlike) rfl dX12_endUnlike_43 hm ?_
        refine r_iconst (y := m12_endUnlike) (v := 1) dX12_endUnlike_46 (by decide) ?_
        refine r_isub (y := m12_endUnlike) dX12_endUnlike_47 ?_
        refine p_X12_296 (y := m12_endUnlike) rfl dX12_endUnlike_48 hm ?_
        refine r_aload_n (y := m12_endUnlike) dX12_endUnlike_51 rfl rfl ?_
        refine r_aload_n (y := m12_endUnlike) dX12_endUnlike_52 rfl rfl ?_
        refine g_X12_101 (y := m12_endUnlike) rfl dX12_endUnlike_53 (St.i hm) ?_
        refine r_aload_n (y := m12_endUnlike) dX12_endUnlike_56 rfl rfl ?_
        refine g_X12_296 (y := m12_endUnlike) rfl dX12_endUnlike_57 (St.i hm) ?_
        refine V.top (b := ((mI m 668 42) - 1)) (by first | rfl | simp [mI_set, mI_setR]) ?_
        obtain ⟨hb4, h⟩ := h
        refine r_iald (y := m12_endUnlike) (n := 6000) dX12_endUnlike_60 (sa_699 (St.i hm)) hb4 ?_
        refine V.top (b := (mI m 699 (Int32.toNatClampNeg ((mI m 668 42) - 1)))) (by first | rfl | simp [mI_set, mI_setR]) ?_
        refine r_callV (y := m12_endUnlike) (As := [(.int (mI m 699 (Int32.toNatClampNeg ((mI m 668 42) - 1))))]) (b := 668) (ci := 12) dX12_endUnlike_61 rfl k12_root lm_X12_280 rfl ⟨by decide, by decide⟩ (so_668 (St.i hm)) (by decide) rfl (Nat.le_of_ble_eq_true rfl) (C.mono h ?_)
        rintro _ m5 ⟨x7, rfl, hm6, h⟩
        refine ⟨_, rfl, ?_⟩
        refine r_istore_n (y := m12_endUnlike) (L' := [some (.ref 668), some (.int v1), some (.int v2), some (.int x7), none]) dX12_endUnlike_64 rfl (Nat.le_of_ble_eq_true rfl) rfl ?_
        refine r_aload_n (y := m12_endUnlike) dX12_endUnlike_65 rfl rfl ?_
        refine r_aload_n (y := m12_endUnlike) dX12_endUnlike_66 rfl rfl ?_
        refine g_X12_104 (y := m12_endUnlike) rfl dX12_endUnlike_67 hm6 ?_
        refine r_aload_n (y := m12_endUnlike) dX12_endUnlike_70 rfl rfl ?_
        refine g_X12_296 (y := m12_endUnlike) rfl dX12_endUnlike_71 hm6 ?_
        obtain ⟨hb8, h⟩ := h
        refine r_iald (y := m12_endUnlike) (n := 6000) dX12_endUnlike_74 (sa_700 hm6) hb8 ?_
        refine r_callV (y := m12_endUnlike) (As := [(.int (mI m5 700 (Int32.toNatClampNeg (mI m5 668 42))))]) (b := 668) (ci := 12) dX12_endUnlike_75 rfl k12_root lm_X12_280 rfl ⟨by decide, by decide⟩ (so_668 hm6) (by decide) rfl (Nat.le_of_ble_eq_true rfl) (C.mono h ?_)
        rintro _ m9 ⟨x11, rfl, hm10, h⟩
        refine ⟨_, rfl, ?_⟩
        refine r_istore (y := m12_endUnlike) (L' := [some (.ref 668), some (.int v1), some (.int v2), some (.int x7), some (.int x11)]) dX12_endUnlike_78 (Nat.le_of_ble_eq_true rfl) rfl ?_
        refine r_iload_n (y := m12_endUnlike) dX12_endUnlike_80 rfl rfl ?_
        refine r_iload (y := m12_endUnlike) dX12_endUnlike_81 rfl ?_
        refine r_icmp_eq (y := m12_endUnlike) (tgt := 113) dX12_endUnlike_83 (by decide) (fun hc12 => ?_) (fun hc12 => ?_)
        · have h := h.1 hc12
          exact h
        · have h := h.2 hc12
          refine r_aload_n (y := m12_endUnlike) dX12_endUnlike_86 rfl rfl ?_
          refine g_X12_35 (y := m12_endUnlike) rfl dX12_endUnlike_87 hm10 ?_
          refine r_iload_n (y := m12_endUnlike) dX12_endUnlike_90 rfl rfl ?_
          obtain ⟨hb13, h⟩ := h
          refine r_iald (y := m12_endUnlike) (n := 6000) dX12_endUnlike_91 (sa_677 hm10) hb13 ?_
          refine r_if_eq (y := m12_endUnlike) (tgt := 105) dX12_endUnlike_92 (by decide) (fun hc14 => ?_) (fun hc14 => ?_)
          · have h := h.1 hc14
            exact h
          · have h := h.2 hc14
            refine r_aload_n (y := m12_endUnlike) dX12_endUnlike_95 rfl rfl ?_
            refine g_X12_35 (y := m12_endUnlike) rfl dX12_endUnlike_96 hm10 ?_
            refine r_iload (y := m12_endUnlike) dX12_endUnlike_99 rfl ?_
            obtain ⟨hb15, h⟩ := h
            refine r_iald (y := m12_endUnlike) (n := 6000) dX12_endUnlike_101 (sa_677 hm10) hb15 ?_
            refine r_if_ne (y := m12_endUnlike) (tgt := 113) dX12_endUnlike_102 (by decide) (fun hc16 => ?_) (fun hc16 => ?_)
            · have h := h.1 hc16
              exact h
            · have h := h.2 hc16
              exact h
set_option maxHeartbeats 4000000 in
set_option maxRecDepth 100000 in
theorem u12_endUnlike_186 {m : Mm} {K : Option Value ⊕ String → Mm → Prop} (hm : St m) {v1 : Int32} {v2 : Int32}  (h : (((mI m 668 29) = 0 → ((v2 = 0 → C m12_becomeData [(.ref 668), (.int v1), (.int 1)] m (fun o m3 => o = .inl none ∧ St m3 ∧ V m12_endUnlike 217 [some (.ref 668), some (.int v1), some (.int v2), none, none] [] m3 K)) ∧ (¬ v2 = 0 → vp_in v1 6000 ∧ C m12_fail [(.ref 668), (.int (mI m 681 (Int32.toNatClampNeg v1)))] m (fun o m6 => o = .inl none ∧ St m6 ∧ V m12_endUnlike 217 [some (.ref 668), some (.int v1), some (.int v2), none, none] [] m6 K)))) ∧ (¬ (mI m 668 29) = 0 → K (.inl none) m))) : V m12_endUnlike 186 [some (.ref 668), some (.int v1), some (.int v2), none, none] [] m K := by
  refine r_aload_n (y := m12_endUnlike) dX12_endUnlike_186 rfl rfl ?_
  refine g_X12_245 (y := m12_endUnlike) rfl dX12_endUnlike_187 hm ?_
  refine r_if_eq (y := m12_endUnlike) (tgt := 194) dX12_endUnlike_190 (by decide) (fun hc1 => ?_) (fun hc1 => ?_)
  · have h := h.1 hc1
    refine r_iload_n (y := m12_endUnlike) dX12_endUnlike_194 rfl rfl ?_
    refine r_if_eq (y := m12_endUnlike) (tgt := 211) dX12_endUnlike_195 (by decide) (fun hc2 => ?_) (fun hc2 => ?_)
    · have h := h.1 hc2
      refine r_aload_n (y := m12_endUnlike) dX12_endUnlike_211 rfl rfl ?_
      refine r_iload_n (y := m12_endUnlike) dX12_endUnlike_212 rfl rfl ?_
      refine r_iconst (y := m12_endUnlike) (v := 1) dX12_endUnlike_213 (by decide) ?_
      refine r_callV (y := m12_endUnlike) (As := [(.int v1), (.int 1)]) (b := 668) (ci := 12) dX12_endUnlike_214 rfl k12_becomeData lm_X12_267 rfl ⟨by decide, by decide⟩ (so_668 hm) (by decide) rfl (Nat.le_of_ble_eq_true rfl) (C.mono h ?_)
      rintro _ m3 ⟨rfl, hm4, h⟩
      refine ⟨none, rfl, ?_⟩
      exact h
    · have h := h.2 hc2
      refine r_aload_n (y := m12_endUnlike) dX12_endUnlike_198 rfl rfl ?_
      refine r_aload_n (y := m12_endUnlike) dX12_endUnlike_199 rfl rfl ?_
      refine g_X12_47 (y := m12_endUnlike) rfl dX12_endUnlike_200 hm ?_
      refine r_iload_n (y := m12_endUnlike) dX12_endUnlike_203 rfl rfl ?_
      obtain ⟨hb5, h⟩ := h
      refine r_iald (y := m12_endUnlike) (n := 6000) dX12_endUnlike_204 (sa_681 hm) hb5 ?_
      refine r_callV (y := m12_endUnlike) (As := [(.int (mI m 681 (Int32.toNatClampNeg v1)))]) (b := 668) (ci := 12) dX12_endUnlike_205 rfl k12_fail lm_X12_270 rfl ⟨by decide, by decide⟩ (so_668 hm) (by decide) rfl (Nat.le_of_ble_eq_true rfl) (C.mono h ?_)
      rintro _ m6 ⟨rfl, hm7, h⟩
      refine ⟨none, rfl, ?_⟩
      refine r_goto (y := m12_endUnlike) (tgt := 217) dX12_endUnlike_208 (by decide) ?_
      exact h
  · have h := h.2 hc1
    exact r_ret (y := m12_endUnlike) dX12_endUnlike_193 rfl h
set_option maxHeartbeats 4000000 in
set_option maxRecDepth 100000 in
theorem u12_endUnlike_113 {m : Mm} {K : Option Value ⊕ String → Mm → Prop} (hm : St m) {v1 : Int32} {v2 : Int32} {v3 : Int32} {v4 : Int32}  (h : ((v3 = v4 → V m12_endUnlike 183 [some (.ref 668), some (.int v1), some (.int v2), some (.int v3), some (.int v4)] [] m K) ∧ (¬ v3 = v4 → C m12_step [(.ref 668)] m (fun o m2 => o = .inl none ∧ St m2 ∧ vp_in v3 6000 ∧ vp_in v4 6000 ∧ ((¬ (mI m2 678 (Int32.toNatClampNeg v3)) = (mI m2 678 (Int32.toNatClampNeg v4)) → V m12_endUnlike 144 [some (.ref 668), some (.int v1), some (.int v2), some (.int v3), some (.int v4)] [(.int 0)] m2 K) ∧ ((mI m2 678 (Int32.toNatClampNeg v3)) = (mI m2 678 (Int32.toNatClampNeg v4)) → V m12_endUnlike 144 [some (.ref 668), some (.int v1), some (.int v2), some (.int v3), some (.int v4)] [(.int 1)] m2 K)))))) : V m12_endUnlike 113 [some (.ref 668), some (.int v1), some (.int v2), some (.int v3), some (.int v4)] [] m K := by
  refine r_iload_n (y := m12_endUnlike) dX12_endUnlike_113 rfl rfl ?_
  refine r_iload (y := m12_endUnlike) dX12_endUnlike_114 rfl ?_
  refine r_icmp_eq (y := m12_endUnlike) (tgt := 183) dX12_endUnlike_116 (by decide) (fun hc1 => ?_) (fun hc1 => ?_)
  · have h := h.1 hc1
    exact h
  · have h := h.2 hc1
    refine r_aload_n (y := m12_endUnlike) dX12_endUnlike_119 rfl rfl ?_
    refine r_callV (y := m12_endUnlike) (As := []) (b := 668) (ci := 12) dX12_endUnlike_120 rfl k12_step lm_X12_254 rfl ⟨by decide, by decide⟩ (so_668 hm) (by decide) rfl (Nat.le_of_ble_eq_true rfl) (C.mono h ?_)
    rintro _ m2 ⟨rfl, hm3, h⟩
    refine ⟨none, rfl, ?_⟩
    refine r_aload_n (y := m12_endUnlike) dX12_endUnlike_123 rfl rfl ?_
    refine g_X12_38 (y := m12_endUnlike) rfl dX12_endUnlike_124 hm3 ?_
    refine r_iload_n (y := m12_endUnlike) dX12_endUnlike_127 rfl rfl ?_
    obtain ⟨hb4, h⟩ := h
    refine r_iald (y := m12_endUnlike) (n := 6000) dX12_endUnlike_128 (sa_678 hm3) hb4 ?_
    refine r_aload_n (y := m12_endUnlike) dX12_endUnlike_129 rfl rfl ?_
    refine g_X12_38 (y := m12_endUnlike) rfl dX12_endUnlike_130 hm3 ?_
    refine r_iload (y := m12_endUnlike) dX12_endUnlike_133 rfl ?_
    obtain ⟨hb5, h⟩ := h
    refine r_iald (y := m12_endUnlike) (n := 6000) dX12_endUnlike_135 (sa_678 hm3) hb5 ?_
    refine r_icmp_ne (y := m12_endUnlike) (tgt := 143) dX12_endUnlike_136 (by decide) (fun hc6 => ?_) (fun hc6 => ?_)
    · have h := h.1 hc6
      refine r_iconst (y := m12_endUnlike) (v := 0) dX12_endUnlike_143 (by decide) ?_
      exact h
    · have h := h.2 hc6
      refine r_iconst (y := m12_endUnlike) (v := 1) dX12_endUnlike_139 (by decide) ?_
      refine r_goto (y := m12_endUnlike) (tgt := 144) dX12_endUnlike_140 (by decide) ?_
      exact h
set_option maxHeartbeats 4000000 in
set_option maxRecDepth 100000 in
theorem u12_endUnlike_105 {m : Mm} {K : Option Value ⊕ String → Mm → Prop} (hm : St m) {v1 : Int32} {v2 : Int32} {v3 : Int32} {v4 : Int32}  (h : V m12_endUnlike 183 [some (.ref 668), some (.int v1), some (.int v2), some (.int v3), some (.int v4)] [] (mSetI m 668 29 3) K) : V m12_endUnlike 105 [some (.ref 668), some (.int v1), some (.int v2), some (.int v3), some (.int v4)] [] m K := by
  refine r_aload_n (y := m12_endUnlike) dX12_endUnlike_105 rfl rfl ?_
  refine r_iconst (y := m12_endUnlike) (v := 3) dX12_endUnlike_106 (by decide) ?_
  refine p_X12_245 (y := m12_endUnlike) rfl dX12_endUnlike_107 hm ?_
  refine r_goto (y := m12_endUnlike) (tgt := 183) dX12_endUnlike_110 (by decide) ?_
  exact h
set_option maxHeartbeats 4000000 in
set_option maxRecDepth 100000 in
theorem u12_endUnlike_217 {m : Mm} {K : Option Value ⊕ String → Mm → Prop} (hm : St m) {v1 : Int32} {v2 : Int32}  (h : K (.inl none) m) : V m12_endUnlike 217 [some (.ref 668), some (.int v1), some (.int v2), none, none] [] m K := by
  exact r_ret (y := m12_endUnlike) dX12_endUnlike_217 rfl h
set_option maxHeartbeats 4000000 in
set_option maxRecDepth 100000 in
theorem u12_endUnlike_183 {m : Mm} {K : Option Value ⊕ String → Mm → Prop} (hm : St m) {v1 : Int32} {v2 : Int32} {v3 : Int32} {v4 : Int32}  (h : V m12_endUnlike 23 [some (.ref 668), some (.int v1), some (.int v2), some (.int v3), some (.int v4)] [] m K) : V m12_endUnlike 183 [some (.ref 668), some (.int v1), some (.int v2), some (.int v3), some (.int v4)] [] m K := by
  refine r_goto (y := m12_endUnlike) (tgt := 23) dX12_endUnlike_183 (by decide) ?_
  exact h
set_option maxHeartbeats 4000000 in
set_option maxRecDepth 100000 in
theorem u12_endUnlike_144 {m : Mm} {K : Option Value ⊕ String → Mm → Prop} (hm : St m) {v1 : Int32} {v2 : Int32} {v3 : Int32} {v4 : Int32} {s0 : Int32}  (h : ((s0 = 0 → V m12_endUnlike 183 [some (.ref 668), some (.int v1), some (.int s0), some (.int v3), some (.int v4)] [] m K) ∧ (¬ s0 = 0 → vp_in v3 6000 ∧ vp_in v4 6000 ∧ C m12_pair [(.ref 668), (.int (mI m 680 (Int32.toNatClampNeg v3))), (.int (mI m 680 (Int32.toNatClampNeg v4)))] m (fun o m4 => o = .inl none ∧ St m4 ∧ vp_in v3 6000 ∧ vp_in v4 6000 ∧ C m12_pair [(.ref 668), (.int (mI m4 679 (Int32.toNatClampNeg v3))), (.int (mI m4 679 (Int32.toNatClampNeg v4)))] m4 (fun o m8 => o = .inl none ∧ St m8 ∧ V m12_endUnlike 183 [some (.ref 668), some (.int v1), some (.int s0), some (.int v3), some (.int v4)] [] m8 K))))) : V m12_endUnlike 144 [some (.ref 668), some (.int v1), some (.int v2), some (.int v3), some (.int v4)] [(.int s0)] m K := by
  refine r_istore_n (y := m12_endUnlike) (L' := [some (.ref 668), some (.int v1), some (.int s0), some (.int v3), some (.int v4)]) dX12_endUnlike_144 rfl (Nat.le_of_ble_eq_true rfl) rfl ?_
  refine r_iload_n (y := m12_endUnlike) dX12_endUnlike_145 rfl rfl ?_
  refine r_if_eq (y := m12_endUnlike) (tgt := 183) dX12_endUnlike_146 (by decide) (fun hc1 => ?_) (fun hc1 => ?_)
  · have h := h.1 hc1
    exact h
  · have h := h.2 hc1
    refine r_aload_n (y := m12_endUnlike) dX12_endUnlike_149 rfl rfl ?_
    refine r_aload_n (y := m12_endUnlike) dX12_endUnlike_150 rfl rfl ?_
    refine g_X12_44 (y := m12_endUnlike) rfl dX12_endUnlike_151 hm ?_
    refine r_iload_n (y := m12_endUnlike) dX12_endUnlike_154 rfl rfl ?_
    obtain ⟨hb2, h⟩ := h
    refine r_iald (y := m12_endUnlike) (n := 6000) dX12_endUnlike_155 (sa_680 hm) hb2 ?_
    refine r_aload_n (y := m12_endUnlike) dX12_endUnlike_156 rfl rfl ?_
    refine g_X12_44 (y := m12_endUnlike) rfl dX12_endUnlike_157 hm ?_
    refine r_iload (y := m12_endUnlike) dX12_endUnlike_160 rfl ?_
    obtain ⟨hb3, h⟩ := h
    refine r_iald (y := m12_endUnlike) (n := 6000) dX12_endUnlike_162 (sa_680 hm) hb3 ?_
    refine r_callV (y := m12_endUnlike) (As := [(.int (mI m 680 (Int32.toNatClampNeg v3))), (.int (mI m 680 (Int32.toNatClampNeg v4)))]) (b := 668) (ci := 12) dX12_endUnlike_163 rfl k12_pair lm_X12_305 rfl ⟨by decide, by decide⟩ (so_668 hm) (by decide) rfl (Nat.le_of_ble_eq_true rfl) (C.mono h ?_)
    rintro _ m4 ⟨rfl, hm5, h⟩
    refine ⟨none, rfl, ?_⟩
    refine r_aload_n (y := m12_endUnlike) dX12_endUnlike_166 rfl rfl ?_
    refine r_aload_n (y := m12_endUnlike) dX12_endUnlike_167 rfl rfl ?_
    refine g_X12_41 (y := m12_endUnlike) rfl dX12_endUnlike_168 hm5 ?_
    refine r_iload_n (y := m12_endUnlike) dX12_endUnlike_171 rfl rfl ?_
    obtain ⟨hb6, h⟩ := h
    refine r_iald (y := m12_endUnlike) (n := 6000) dX12_endUnlike_172 (sa_679 hm5) hb6 ?_
    refine r_aload_n (y := m12_endUnlike) dX12_endUnlike_173 rfl rfl ?_
    refine g_X12_41 (y := m12_endUnlike) rfl dX12_endUnlike_174 hm5 ?_
    refine r_iload (y := m12_endUnlike) dX12_endUnlike_177 rfl ?_
    obtain ⟨hb7, h⟩ := h
    refine r_iald (y := m12_endUnlike) (n := 6000) dX12_endUnlike_179 (sa_679 hm5) hb7 ?_
    refine r_callV (y := m12_endUnlike) (As := [(.int (mI m4 679 (Int32.toNatClampNeg v3))), (.int (mI m4 679 (Int32.toNatClampNeg v4)))]) (b := 668) (ci := 12) dX12_endUnlike_180 rfl k12_pair lm_X12_305 rfl ⟨by decide, by decide⟩ (so_668 hm5) (by decide) rfl (Nat.le_of_ble_eq_true rfl) (C.mono h ?_)
    rintro _ m8 ⟨rfl, hm9, h⟩
    refine ⟨none, rfl, ?_⟩
    exact h
set_option maxHeartbeats 4000000 in
set_option maxRecDepth 100000 in
theorem u12_matchData {m : Mm} {K : Option Value ⊕ String → Mm → Prop} (hm : St m) {a0 : Int32} {a1 : Int32} {a2 : Int32}  (h : C m12_root [(.ref 668), (.int a1)] m (fun o m1 => ∃ x3 : Int32, o = .inl (some (.int x3)) ∧ St m1 ∧ vp_in a0 876 ∧ vp_in x3 6000 ∧ ((¬ (mI m1 677 (Int32.toNatClampNeg x3)) = 0 → V m12_matchData 70 [some (.ref 668), some (.int a0), some (.int a1), some (.int a2), some (.int x3), some (.int ((mI m1 676 (Int32.toNatClampNeg a0)) - 10)), some (.int (((mI m1 676 (Int32.toNatClampNeg a0)) - 10) / 2)), none, none] [] m1 K) ∧ ((mI m1 677 (Int32.toNatClampNeg x3)) = 0 → vp_in a2 6000 ∧ vp_in (mI m1 678 (Int32.toNatClampNeg a2)) 8 ∧ ((¬ (mI m1 670 (Int32.toNatClampNeg (mI m1 678 (Int32.toNatClampNeg a2)))) = 0 → V m12_matchData 64 [some (.ref 668), some (.int a0), some (.int a1), some (.int a2), some (.int x3), some (.int ((mI m1 676 (Int32.toNatClampNeg a0)) - 10)), some (.int (((mI m1 676 (Int32.toNatClampNeg a0)) - 10) / 2)), none, none] [] m1 K) ∧ ((mI m1 670 (Int32.toNatClampNeg (mI m1 678 (Int32.toNatClampNeg a2)))) = 0 → vp_in x3 6000 ∧ vp_in a2 6000 ∧ (((mI m1 681 (Int32.toNatClampNeg x3)) = (mI m1 681 (Int32.toNatClampNeg a2)) → V m12_matchData 70 [some (.ref 668), some (.int a0), some (.int a1), some (.int a2), some (.int x3), some (.int ((mI m1 676 (Int32.toNatClampNeg a0)) - 10)), some (.int (((mI m1 676 (Int32.toNatClampNeg a0)) - 10) / 2)), none, none] [] m1 K) ∧ (¬ (mI m1 681 (Int32.toNatClampNeg x3)) = (mI m1 681 (Int32.toNatClampNeg a2)) → V m12_matchData 64 [some (.ref 668), some (.int a0), some (.int a1), some (.int a2), some (.int x3), some (.int ((mI m1 676 (Int32.toNatClampNeg a0)) - 10)), some (.int (((mI m1 676 (Int32.toNatClampNeg a0)) - 10) / 2)), none, none] [] m1 K)))))))) : V m12_matchData 0 [some (.ref 668), some (.int a0), some (.int a1), some (.int a2), none, none, none, none, none] [] m K := by
  refine r_aload_n (y := m12_matchData) dX12_matchData_0 rfl rfl ?_
  refine r_iload_n (y := m12_matchData) dX12_matchData_1 rfl rfl ?_
  refine r_callV (y := m12_matchData) (As := [(.int a1)]) (b := 668) (ci := 12) dX12_matchData_2 rfl k12_root lm_X12_280 rfl ⟨by decide, by decide⟩ (so_668 hm) (by decide) rfl (Nat.le_of_ble_eq_true rfl) (C.mono h ?_)
  rintro _ m1 ⟨x3, rfl, hm2, h⟩
  refine ⟨_, rfl, ?_⟩
  refine r_istore (y := m12_matchData) (L' := [some (.ref 668), some (.int a0), some (.int a1), some (.int a2), some (.int x3), none, none, none, none]) dX12_matchData_5 (Nat.le_of_ble_eq_true rfl) rfl ?_
  refine r_aload_n (y := m12_matchData) dX12_matchData_7 rfl rfl ?_
  refine g_X12_32 (y := m12_matchData) rfl dX12_matchData_8 hm2 ?_
  refine r_iload_n (y := m12_matchData) dX12_matchData_11 rfl rfl ?_
  obtain ⟨hb4, h⟩ := h
  refine r_iald (y := m12_matchData) (n := 876) dX12_matchData_12 (sa_676 hm2) hb4 ?_
  refine r_bipush (y := m12_matchData) (v := 10) dX12_matchData_13 (by decide) ?_
  refine r_isub (y := m12_matchData) dX12_matchData_15 ?_
  refine r_istore (y := m12_matchData) (L' := [some (.ref 668), some (.int a0), some (.int a1), some (.int a2), some (.int x3), some (.int ((mI m1 676 (Int32.toNatClampNeg a0)) - 10)), none, none, none]) dX12_matchData_16 (Nat.le_of_ble_eq_true rfl) rfl ?_
  refine r_iload (y := m12_matchData) dX12_matchData_18 rfl ?_
  refine r_iconst (y := m12_matchData) (v := 2) dX12_matchData_20 (by decide) ?_
  refine r_idiv (y := m12_matchData) dX12_matchData_21 (by decide) ?_
  refine r_istore (y := m12_matchData) (L' := [some (.ref 668), some (.int a0), some (.int a1), some (.int a2), some (.int x3), some (.int ((mI m1 676 (Int32.toNatClampNeg a0)) - 10)), some (.int (((mI m1 676 (Int32.toNatClampNeg a0)) - 10) / 2)), none, none]) dX12_matchData_22 (Nat.le_of_ble_eq_true rfl) rfl ?_
  refine r_aload_n (y := m12_matchData) dX12_matchData_24 rfl rfl ?_
  refine g_X12_35 (y := m12_matchData) rfl dX12_matchData_25 hm2 ?_
  refine r_iload (y := m12_matchData) dX12_matchData_28 rfl ?_
  obtain ⟨hb5, h⟩ := h
  refine r_iald (y := m12_matchData) (n := 6000) dX12_matchData_30 (sa_677 hm2) hb5 ?_
  refine r_if_ne (y := m12_matchData) (tgt := 70) dX12_matchData_31 (by decide) (fun hc6 => ?_) (fun hc6 => ?_)
  · have h := h.1 hc6
    exact h
  · have h := h.2 hc6
    refine r_aload_n (y := m12_matchData) dX12_matchData_34 rfl rfl ?_
    refine g_X12_13 (y := m12_matchData) rfl dX12_matchData_35 hm2 ?_
    refine r_aload_n (y := m12_matchData) dX12_matchData_38 rfl rfl ?_
    refine g_X12_38 (y := m12_matchData) rfl dX12_matchData_39 hm2 ?_
    refine r_iload_n (y := m12_matchData) dX12_matchData_42 rfl rfl ?_
    obtain ⟨hb7, h⟩ := h
    refine r_iald (y := m12_matchData) (n := 6000) dX12_matchData_43 (sa_678 hm2) hb7 ?_
    obtain ⟨hb8, h⟩ := h
    refine r_zald (y := m12_matchData) (n := 8) dX12_matchData_44 (sa_670 hm2) hb8 ?_
    refine r_if_ne (y := m12_matchData) (tgt := 64) dX12_matchData_45 (by decide) (fun hc9 => ?_) (fun hc9 => ?_)
    · have h := h.1 hc9
      exact h
    · have h := h.2 hc9
      refine r_aload_n (y := m12_matchData) dX12_matchData_48 rfl rfl ?_
      refine g_X12_47 (y := m12_matchData) rfl dX12_matchData_49 hm2 ?_
      refine r_iload (y := m12_matchData) dX12_matchData_52 rfl ?_
      obtain ⟨hb10, h⟩ := h
      refine r_iald (y := m12_matchData) (n := 6000) dX12_matchData_54 (sa_681 hm2) hb10 ?_
      refine r_aload_n (y := m12_matchData) dX12_matchData_55 rfl rfl ?_
      refine g_X12_47 (y := m12_matchData) rfl dX12_matchData_56 hm2 ?_
      refine r_iload_n (y := m12_matchData) dX12_matchData_59 rfl rfl ?_
      obtain ⟨hb11, h⟩ := h
      refine r_iald (y := m12_matchData) (n := 6000) dX12_matchData_60 (sa_681 hm2) hb11 ?_
      refine r_icmp_eq (y := m12_matchData) (tgt := 70) dX12_matchData_61 (by decide) (fun hc12 => ?_) (fun hc12 => ?_)
      · have h := h.1 hc12
        exact h
      · have h := h.2 hc12
        exact h
set_option maxHeartbeats 4000000 in
set_option maxRecDepth 100000 in
theorem u12_matchData_70 {m : Mm} {K : Option Value ⊕ String → Mm → Prop} (hm : St m) {v1 : Int32} {v2 : Int32} {v3 : Int32} {v4 : Int32} {v5 : Int32} {v6 : Int32}  (h : vp_in v4 6000 ∧ ((¬ (mI m 677 (Int32.toNatClampNeg v4)) = 0 → V m12_matchData 155 [some (.ref 668), some (.int v1), some (.int v2), some (.int v3), some (.int v4), some (.int v5), some (.int v6), none, none] [] m K) ∧ ((mI m 677 (Int32.toNatClampNeg v4)) = 0 → C m12_becomeData [(.ref 668), (.int v4), (.int v5)] m (fun o m3 => o = .inl none ∧ St m3 ∧ ((v6 ≤ 0 → V m12_matchData 110 [some (.ref 668), some (.int v1), some (.int v2), some (.int v3), some (.int v4), some (.int v5), some (.int v6), none, none] [(.int (-1))] m3 K) ∧ (¬ v6 ≤ 0 → vp_in v4 6000 ∧ C m12_newThing [(.ref 668), (.int 0), (.int 0), (.int (mI m3 681 (Int32.toNatClampNeg v4)))] m3 (fun o m7 => ∃ x9 : Int32, o = .inl (some (.int x9)) ∧ St m7 ∧ V m12_matchData 110 [some (.ref 668), some (.int v1), some (.int v2), some (.int v3), some (.int v4), some (.int v5), some (.int v6), none, none] [(.int x9)] m7 K))))))) : V m12_matchData 70 [some (.ref 668), some (.int v1), some (.int v2), some (.int v3), some (.int v4), some (.int v5), some (.int v6), none, none] [] m K := by
  refine r_aload_n (y := m12_matchData) dX12_matchData_70 rfl rfl ?_
  refine g_X12_35 (y := m12_matchData) rfl dX12_matchData_71 hm ?_
  refine r_iload (y := m12_matchData) dX12_matchData_74 rfl ?_
  obtain ⟨hb1, h⟩ := h
  refine r_iald (y := m12_matchData) (n := 6000) dX12_matchData_76 (sa_677 hm) hb1 ?_
  refine r_if_ne (y := m12_matchData) (tgt := 155) dX12_matchData_77 (by decide) (fun hc2 => ?_) (fun hc2 => ?_)
  · have h := h.1 hc2
    exact h
  · have h := h.2 hc2
    refine r_aload_n (y := m12_matchData) dX12_matchData_80 rfl rfl ?_
    refine r_iload (y := m12_matchData) dX12_matchData_81 rfl ?_
    refine r_iload (y := m12_matchData) dX12_matchData_83 rfl ?_
    refine r_callV (y := m12_matchData) (As := [(.int v4), (.int v5)]) (b := 668) (ci := 12) dX12_matchData_85 rfl k12_becomeData lm_X12_267 rfl ⟨by decide, by decide⟩ (so_668 hm) (by decide) rfl (Nat.le_of_ble_eq_true rfl) (C.mono h ?_)
    rintro _ m3 ⟨rfl, hm4, h⟩
    refine ⟨none, rfl, ?_⟩
    refine r_iload (y := m12_matchData) dX12_matchData_88 rfl ?_
    refine r_if_le (y := m12_matchData) (tgt := 109) dX12_matchData_90 (by decide) (fun hc5 => ?_) (fun hc5 => ?_)
    · have h := h.1 hc5
      refine r_iconst (y := m12_matchData) (v := (-1)) dX12_matchData_109 (by decide) ?_
      exact h
    · have h := h.2 hc5
      refine r_aload_n (y := m12_matchData) dX12_matchData_93 rfl rfl ?_
      refine r_iconst (y := m12_matchData) (v := 0) dX12_matchData_94 (by decide) ?_
      refine r_iconst (y := m12_matchData) (v := 0) dX12_matchData_95 (by decide) ?_
      refine r_aload_n (y := m12_matchData) dX12_matchData_96 rfl rfl ?_
      refine g_X12_47 (y := m12_matchData) rfl dX12_matchData_97 hm4 ?_
      refine r_iload (y := m12_matchData) dX12_matchData_100 rfl ?_
      obtain ⟨hb6, h⟩ := h
      refine r_iald (y := m12_matchData) (n := 6000) dX12_matchData_102 (sa_681 hm4) hb6 ?_
      refine r_callV (y := m12_matchData) (As := [(.int 0), (.int 0), (.int (mI m3 681 (Int32.toNatClampNeg v4)))]) (b := 668) (ci := 12) dX12_matchData_103 rfl k12_newThing lm_X12_233 rfl ⟨by decide, by decide⟩ (so_668 hm4) (by decide) rfl (Nat.le_of_ble_eq_true rfl) (C.mono h ?_)
      rintro _ m7 ⟨x9, rfl, hm8, h⟩
      refine ⟨_, rfl, ?_⟩
      refine r_goto (y := m12_matchData) (tgt := 110) dX12_matchData_106 (by decide) ?_
      exact h
set_option maxHeartbeats 4000000 in
set_option maxRecDepth 100000 in
theorem u12_matchData_64 {m : Mm} {K : Option Value ⊕ String → Mm → Prop} (hm : St m) {v1 : Int32} {v2 : Int32} {v3 : Int32} {v4 : Int32} {v5 : Int32} {v6 : Int32}  (h : K (.inl none) (mSetI m 668 29 3)) : V m12_matchData 64 [some (.ref 668), some (.int v1), some (.int v2), some (.int v3), some (.int v4), some (.int v5), some (.int v6), none, none] [] m K := by
  refine r_aload_n (y := m12_matchData) dX12_matchData_64 rfl rfl ?_
  refine r_iconst (y := m12_matchData) (v := 3) dX12_matchData_65 (by decide) ?_
  refine p_X12_245 (y := m12_matchData) rfl dX12_matchData_66 hm ?_
  exact r_ret (y := m12_matchData) dX12_matchData_69 rfl h
set_option maxHeartbeats 4000000 in
set_option maxRecDepth 100000 in
theorem u12_matchData_155 {m : Mm} {K : Option Value ⊕ String → Mm → Prop} (hm : St m) {v1 : Int32} {v2 : Int32} {v3 : Int32} {v4 : Int32} {v5 : Int32} {v6 : Int32}  (h : vp_in v4 6000 ∧ (((mI m 678 (Int32.toNatClampNeg v4)) = v5 → ((v6 ≤ 1 → V m12_matchData 204 [some (.ref 668), some (.int v1), some (.int v2), some (.int v3), some (.int v4), some (.int v5), some (.int v6), none, none] [] m K) ∧ (¬ v6 ≤ 1 → C m12_endOf [(.ref 668), (.int (v1 + 1))] m (fun o m4 => ∃ x6 : Int32, o = .inl (some (.int x6)) ∧ St m4 ∧ vp_in v4 6000 ∧ C m12_task [(.ref 668), (.int 4), (.int x6), (.int (mI m4 680 (Int32.toNatClampNeg v4))), (.int v3)] m4 (fun o m8 => o = .inl none ∧ St m8 ∧ V m12_matchData 204 [some (.ref 668), some (.int v1), some (.int v2), some (.int v3), some (.int v4), some (.int v5), some (.int v6), none, none] [] m8 K))))) ∧ (¬ (mI m 678 (Int32.toNatClampNeg v4)) = v5 → vp_in v3 6000 ∧ C m12_fail [(.ref 668), (.int (mI m 681 (Int32.toNatClampNeg v3)))] m (fun o m11 => o = .inl none ∧ St m11 ∧ K (.inl none) m11)))) : V m12_matchData 155 [some (.ref 668), some (.int v1), some (.int v2), some (.int v3), some (.int v4), some (.int v5), some (.int v6), none, none] [] m K := by
  refine r_aload_n (y := m12_matchData) dX12_matchData_155 rfl rfl ?_
  refine g_X12_38 (y := m12_matchData) rfl dX12_matchData_156 hm ?_
  refine r_iload (y := m12_matchData) dX12_matchData_159 rfl ?_
  obtain ⟨hb1, h⟩ := h
  refine r_iald (y := m12_matchData) (n := 6000) dX12_matchData_161 (sa_678 hm) hb1 ?_
  refine r_iload (y := m12_matchData) dX12_matchData_162 rfl ?_
  refine r_icmp_eq (y := m12_matchData) (tgt := 178) dX12_matchData_164 (by decide) (fun hc2 => ?_) (fun hc2 => ?_)
  · have h := h.1 hc2
    refine r_iload (y := m12_matchData) dX12_matchData_178 rfl ?_
    refine r_iconst (y := m12_matchData) (v := 1) dX12_matchData_180 (by decide) ?_
    refine r_icmp_le (y := m12_matchData) (tgt := 204) dX12_matchData_181 (by decide) (fun hc3 => ?_) (fun hc3 => ?_)
    · have h := h.1 hc3
      exact h
    · have h := h.2 hc3
      refine r_aload_n (y := m12_matchData) dX12_matchData_184 rfl rfl ?_
      refine r_iconst (y := m12_matchData) (v := 4) dX12_matchData_185 (by decide) ?_
      refine r_aload_n (y := m12_matchData) dX12_matchData_186 rfl rfl ?_
      refine r_iload_n (y := m12_matchData) dX12_matchData_187 rfl rfl ?_
      refine r_iconst (y := m12_matchData) (v := 1) dX12_matchData_188 (by decide) ?_
      refine r_iadd (y := m12_matchData) dX12_matchData_189 ?_
      refine r_callV (y := m12_matchData) (As := [(.int (v1 + 1))]) (b := 668) (ci := 12) dX12_matchData_190 rfl k12_endOf lm_X12_201 rfl ⟨by decide, by decide⟩ (so_668 hm) (by decide) rfl (Nat.le_of_ble_eq_true rfl) (C.mono h ?_)
      rintro _ m4 ⟨x6, rfl, hm5, h⟩
      refine ⟨_, rfl, ?_⟩
      refine r_aload_n (y := m12_matchData) dX12_matchData_193 rfl rfl ?_
      refine g_X12_44 (y := m12_matchData) rfl dX12_matchData_194 hm5 ?_
      refine r_iload (y := m12_matchData) dX12_matchData_197 rfl ?_
      obtain ⟨hb7, h⟩ := h
      refine r_iald (y := m12_matchData) (n := 6000) dX12_matchData_199 (sa_680 hm5) hb7 ?_
      refine r_iload_n (y := m12_matchData) dX12_matchData_200 rfl rfl ?_
      refine r_callV (y := m12_matchData) (As := [(.int 4), (.int x6), (.int (mI m4 680 (Int32.toNatClampNeg v4))), (.int v3)]) (b := 668) (ci := 12) dX12_matchData_201 rfl k12_task lm_X12_260 rfl ⟨by decide, by decide⟩ (so_668 hm5) (by decide) rfl (Nat.le_of_ble_eq_true rfl) (C.mono h ?_)
      rintro _ m8 ⟨rfl, hm9, h⟩
      refine ⟨none, rfl, ?_⟩
      exact h
  · have h := h.2 hc2
    refine r_aload_n (y := m12_matchData) dX12_matchData_167 rfl rfl ?_
    refine r_aload_n (y := m12_matchData) dX12_matchData_168 rfl rfl ?_
    refine g_X12_47 (y := m12_matchData) rfl dX12_matchData_169 hm ?_
    refine r_iload_n (y := m12_matchData) dX12_matchData_172 rfl rfl ?_
    obtain ⟨hb10, h⟩ := h
    refine r_iald (y := m12_matchData) (n := 6000) dX12_matchData_173 (sa_681 hm) hb10 ?_
    refine r_callV (y := m12_matchData) (As := [(.int (mI m 681 (Int32.toNatClampNeg v3)))]) (b := 668) (ci := 12) dX12_matchData_174 rfl k12_fail lm_X12_270 rfl ⟨by decide, by decide⟩ (so_668 hm) (by decide) rfl (Nat.le_of_ble_eq_true rfl) (C.mono h ?_)
    rintro _ m11 ⟨rfl, hm12, h⟩
    refine ⟨none, rfl, ?_⟩
    exact r_ret (y := m12_matchData) dX12_matchData_177 rfl h
set_option maxHeartbeats 4000000 in
set_option maxRecDepth 100000 in
theorem u12_matchData_110 {m : Mm} {K : Option Value ⊕ String → Mm → Prop} (hm : St m) {v1 : Int32} {v2 : Int32} {v3 : Int32} {v4 : Int32} {v5 : Int32} {v6 : Int32} {s0 : Int32}  (h : ((v6 ≤ 1 → V m12_matchData 135 [some (.ref 668), some (.int v1), some (.int v2), some (.int v3), some (.int v4), some (.int v5), some (.int v6), some (.int s0), none] [(.int (-1))] m K) ∧ (¬ v6 ≤ 1 → vp_in v4 6000 ∧ C m12_newThing [(.ref 668), (.int 0), (.int 0), (.int (mI m 681 (Int32.toNatClampNeg v4)))] m (fun o m3 => ∃ x5 : Int32, o = .inl (some (.int x5)) ∧ St m3 ∧ V m12_matchData 135 [some (.ref 668), some (.int v1), some (.int v2), some (.int v3), some (.int v4), some (.int v5), some (.int v6), some (.int s0), none] [(.int x5)] m3 K)))) : V m12_matchData 110 [some (.ref 668), some (.int v1), some (.int v2), some (.int v3), some (.int v4), some (.int v5), some (.int v6), none, none] [(.int s0)] m K := by
  refine r_istore (y := m12_matchData) (L' := [some (.ref 668), some (.int v1), some (.int v2), some (.int v3), some (.int v4), some (.int v5), some (.int v6), some (.int s0), none]) dX12_matchData_110 (Nat.le_of_ble_eq_true rfl) rfl ?_
  refine r_iload (y := m12_matchData) dX12_matchData_112 rfl ?_
  refine r_iconst (y := m12_matchData) (v := 1) dX12_matchData_114 (by decide) ?_
  refine r_icmp_le (y := m12_matchData) (tgt := 134) dX12_matchData_115 (by decide) (fun hc1 => ?_) (fun hc1 => ?_)
  · have h := h.1 hc1
    refine r_iconst (y := m12_matchData) (v := (-1)) dX12_matchData_134 (by decide) ?_
    exact h
  · have h := h.2 hc1
    refine r_aload_n (y := m12_matchData) dX12_matchData_118 rfl rfl ?_
    refine r_iconst (y := m12_matchData) (v := 0) dX12_matchData_119 (by decide) ?_
    refine r_iconst (y := m12_matchData) (v := 0) dX12_matchData_120 (by decide) ?_
    refine r_aload_n (y := m12_matchData) dX12_matchData_121 rfl rfl ?_
    refine g_X12_47 (y := m12_matchData) rfl dX12_matchData_122 hm ?_
    refine r_iload (y := m12_matchData) dX12_matchData_125 rfl ?_
    obtain ⟨hb2, h⟩ := h
    refine r_iald (y := m12_matchData) (n := 6000) dX12_matchData_127 (sa_681 hm) hb2 ?_
    refine r_callV (y := m12_matchData) (As := [(.int 0), (.int 0), (.int (mI m 681 (Int32.toNatClampNeg v4)))]) (b := 668) (ci := 12) dX12_matchData_128 rfl k12_newThing lm_X12_233 rfl ⟨by decide, by decide⟩ (so_668 hm) (by decide) rfl (Nat.le_of_ble_eq_true rfl) (C.mono h ?_)
    rintro _ m3 ⟨x5, rfl, hm4, h⟩
    refine ⟨_, rfl, ?_⟩
    refine r_goto (y := m12_matchData) (tgt := 135) dX12_matchData_131 (by decide) ?_
    exact h
set_option maxHeartbeats 4000000 in
set_option maxRecDepth 100000 in
theorem u12_matchData_204 {m : Mm} {K : Option Value ⊕ String → Mm → Prop} (hm : St m) {v1 : Int32} {v2 : Int32} {v3 : Int32} {v4 : Int32} {v5 : Int32} {v6 : Int32}  (h : ((v6 ≤ 0 → V m12_matchData 225 [some (.ref 668), some (.int v1), some (.int v2), some (.int v3), some (.int v4), some (.int v5), some (.int v6), none, none] [] m K) ∧ (¬ v6 ≤ 0 → vp_in v4 6000 ∧ C m12_task [(.ref 668), (.int 4), (.int (v1 + 1)), (.int (mI m 679 (Int32.toNatClampNeg v4))), (.int v3)] m (fun o m3 => o = .inl none ∧ St m3 ∧ V m12_matchData 225 [some (.ref 668), some (.int v1), some (.int v2), some (.int v3), some (.int v4), some (.int v5), some (.int v6), none, none] [] m3 K)))) : V m12_matchData 204 [some (.ref 668), some (.int v1), some (.int v2), some (.int v3), some (.int v4), some (.int v5), some (.int v6), none, none] [] m K := by
  refine r_iload (y := m12_matchData) dX12_matchData_204 rfl ?_
  refine r_if_le (y := m12_matchData) (tgt := 225) dX12_matchData_206 (by decide) (fun hc1 => ?_) (fun hc1 => ?_)
  · have h := h.1 hc1
    exact h
  · have h := h.2 hc1
    refine r_aload_n (y := m12_matchData) dX12_matchData_209 rfl rfl ?_
    refine r_iconst (y := m12_matchData) (v := 4) dX12_matchData_210 (by decide) ?_
    refine r_iload_n (y := m12_matchData) dX12_matchData_211 rfl rfl ?_
    refine r_iconst (y := m12_matchData) (v := 1) dX12_matchData_212 (by decide) ?_
    refine r_iadd (y := m12_matchData) dX12_matchData_213 ?_
    refine r_aload_n (y := m12_matchData) dX12_matchData_214 rfl rfl ?_
    refine g_X12_41 (y := m12_matchData) rfl dX12_matchData_215 hm ?_
    refine r_iload (y := m12_matchData) dX12_matchData_218 rfl ?_
    obtain ⟨hb2, h⟩ := h
    refine r_iald (y := m12_matchData) (n := 6000) dX12_matchData_220 (sa_679 hm) hb2 ?_
    refine r_iload_n (y := m12_matchData) dX12_matchData_221 rfl rfl ?_
    refine r_callV (y := m12_matchData) (As := [(.int 4), (.int (v1 + 1)), (.int (mI m 679 (Int32.toNatClampNeg v4))), (.int v3)]) (b := 668) (ci := 12) dX12_matchData_222 rfl k12_task lm_X12_260 rfl ⟨by decide, by decide⟩ (so_668 hm) (by decide) rfl (Nat.le_of_ble_eq_true rfl) (C.mono h ?_)
    rintro _ m3 ⟨rfl, hm4, h⟩
    refine ⟨none, rfl, ?_⟩
    exact h
set_option maxHeartbeats 4000000 in
set_option maxRecDepth 100000 in
theorem u12_matchData_135 {m : Mm} {K : Option Value ⊕ String → Mm → Prop} (hm : St m) {v1 : Int32} {v2 : Int32} {v3 : Int32} {v4 : Int32} {v5 : Int32} {v6 : Int32} {v7 : Int32} {s0 : Int32}  (h : vp_in v4 6000 ∧ vp_in v4 6000 ∧ V m12_matchData 155 [some (.ref 668), some (.int v1), some (.int v2), some (.int v3), some (.int v4), some (.int v5), some (.int v6), some (.int v7), some (.int s0)] [] (mSetI (mSetI m 679 (Int32.toNatClampNeg v4) v7) 680 (Int32.toNatClampNeg v4) s0) K) : V m12_matchData 135 [some (.ref 668), some (.int v1), some (.int v2), some (.int v3), some (.int v4), some (.int v5), some (.int v6), some (.int v7), none] [(.int s0)] m K := by
  refine r_istore (y := m12_matchData) (L' := [some (.ref 668), some (.int v1), some (.int v2), some (.int v3), some (.int v4), some (.int v5), some (.int v6), some (.int v7), some (.int s0)]) dX12_matchData_135 (Nat.le_of_ble_eq_true rfl) rfl ?_
  refine r_aload_n (y := m12_matchData) dX12_matchData_137 rfl rfl ?_
  refine g_X12_41 (y := m12_matchData) rfl dX12_matchData_138 hm ?_
  refine r_iload (y := m12_matchData) dX12_matchData_141 rfl ?_
  refine r_iload (y := m12_matchData) dX12_matchData_143 rfl ?_
  obtain ⟨hb1, h⟩ := h
  refine r_iast (y := m12_matchData) (n := 6000) dX12_matchData_145 (sa_679 hm) hb1 ?_
  refine r_aload_n (y := m12_matchData) dX12_matchData_146 rfl rfl ?_
  refine g_X12_44 (y := m12_matchData) rfl dX12_matchData_147 (St.i hm) ?_
  refine r_iload (y := m12_matchData) dX12_matchData_150 rfl ?_
  refine r_iload (y := m12_matchData) dX12_matchData_152 rfl ?_
  obtain ⟨hb2, h⟩ := h
  refine r_iast (y := m12_matchData) (n := 6000) dX12_matchData_154 (sa_680 (St.i hm)) hb2 ?_
  exact h
set_option maxHeartbeats 4000000 in
set_option maxRecDepth 100000 in
theorem u12_matchData_225 {m : Mm} {K : Option Value ⊕ String → Mm → Prop} (hm : St m) {v1 : Int32} {v2 : Int32} {v3 : Int32} {v4 : Int32} {v5 : Int32} {v6 : Int32}  (h : K (.inl none) m) : V m12_matchData 225 [some (.ref 668), some (.int v1), some (.int v2), some (.int v3), some (.int v4), some (.int v5), some (.int v6), none, none] [] m K := by
  exact r_ret (y := m12_matchData) dX12_matchData_225 rfl h
set_option maxHeartbeats 4000000 in
set_option maxRecDepth 100000 in
theorem u12_call_ {m : Mm} {K : Option Value ⊕ String → Mm → Prop} (hm : St m) {a0 : Int32}  (h : vp_in a0 6000 ∧ vp_in a0 6000 ∧ vp_in (mI m 678 (Int32.toNatClampNeg a0)) 8 ∧ ((¬ (mI m 673 (Int32.toNatClampNeg (mI m 678 (Int32.toNatClampNeg a0)))) = 0 → (((mI m 673 (Int32.toNatClampNeg (mI m 678 (Int32.toNatClampNeg a0)))) ≤ 1 → V m12_call_ 50 [some (.ref 668), some (.int a0), some (.int (mI m 678 (Int32.toNatClampNeg a0))), some (.int (mI m 681 (Int32.toNatClampNeg a0))), some (.int (mI m 673 (Int32.toNatClampNeg (mI m 678 (Int32.toNatClampNeg a0))))), none, none] [(.int 0)] m K) ∧ (¬ (mI m 673 (Int32.toNatClampNeg (mI m 678 (Int32.toNatClampNeg a0)))) ≤ 1 → C m12_decide [(.ref 668), (.int (mI m 681 (Int32.toNatClampNeg a0))), (.int (mI m 673 (Int32.toNatClampNeg (mI m 678 (Int32.toNatClampNeg a0)))))] m (fun o m6 => ∃ x8 : Int32, o = .inl (some (.int x8)) ∧ St m6 ∧ V m12_call_ 50 [some (.ref 668), some (.int a0), some (.int (mI m 678 (Int32.toNatClampNeg a0))), some (.int (mI m 681 (Int32.toNatClampNeg a0))), some (.int (mI m 673 (Int32.toNatClampNeg (mI m 678 (Int32.toNatClampNeg a0))))), none, none] [(.int x8)] m6 K)))) ∧ ((mI m 673 (Int32.toNatClampNeg (mI m 678 (Int32.toNatClampNeg a0)))) = 0 → C m12_fail [(.ref 668), (.int (mI m 681 (Int32.toNatClampNeg a0)))] m (fun o m9 => o = .inl none ∧ St m9 ∧ K (.inl none) m9)))) : V m12_call_ 0 [some (.ref 668), some (.int a0), none, none, none, none, none] [] m K := by
  refine r_aload_n (y := m12_call_) dX12_call__0 rfl rfl ?_
  refine g_X12_38 (y := m12_call_) rfl dX12_call__1 hm ?_
  refine r_iload_n (y := m12_call_) dX12_call__4 rfl rfl ?_
  obtain ⟨hb1, h⟩ := h
  refine r_iald (y := m12_call_) (n := 6000) dX12_call__5 (sa_678 hm) hb1 ?_
  refine r_istore_n (y := m12_call_) (L' := [some (.ref 668), some (.int a0), some (.int (mI m 678 (Int32.toNatClampNeg a0))), none, none, none, none]) dX12_call__6 rfl (Nat.le_of_ble_eq_true rfl) rfl ?_
  refine r_aload_n (y := m12_call_) dX12_call__7 rfl rfl ?_
  refine g_X12_47 (y := m12_call_) rfl dX12_call__8 hm ?_
  refine r_iload_n (y := m12_call_) dX12_call__11 rfl rfl ?_
  obtain ⟨hb2, h⟩ := h
  refine r_iald (y := m12_call_) (n := 6000) dX12_call__12 (sa_681 hm) hb2 ?_
  refine r_istore_n (y := m12_call_) (L' := [some (.ref 668), some (.int a0), some (.int (mI m 678 (Int32.toNatClampNeg a0))), some (.int (mI m 681 (Int32.toNatClampNeg a0))), none, none, none]) dX12_call__13 rfl (Nat.le_of_ble_eq_true rfl) rfl ?_
  refine r_aload_n (y := m12_call_) dX12_call__14 rfl rfl ?_
  refine g_X12_23 (y := m12_call_) rfl dX12_call__15 hm ?_
  refine r_iload_n (y := m12_call_) dX12_call__18 rfl rfl ?_
  obtain ⟨hb3, h⟩ := h
  refine r_iald (y := m12_call_) (n := 8) dX12_call__19 (sa_673 hm) hb3 ?_
  refine r_istore (y := m12_call_) (L' := [some (.ref 668), some (.int a0), some (.int (mI m 678 (Int32.toNatClampNeg a0))), some (.int (mI m 681 (Int32.toNatClampNeg a0))), some (.int (mI m 673 (Int32.toNatClampNeg (mI m 678 (Int32.toNatClampNeg a0))))), none, none]) dX12_call__20 (Nat.le_of_ble_eq_true rfl) rfl ?_
  refine r_iload (y := m12_call_) dX12_call__22 rfl ?_
  refine r_if_ne (y := m12_call_) (tgt := 33) dX12_call__24 (by decide) (fun hc4 => ?_) (fun hc4 => ?_)
  · have h := h.1 hc4
    refine r_iload (y := m12_call_) dX12_call__33 rfl ?_
    refine r_iconst (y := m12_call_) (v := 1) dX12_call__35 (by decide) ?_
    refine r_icmp_le (y := m12_call_) (tgt := 49) dX12_call__36 (by decide) (fun hc5 => ?_) (fun hc5 => ?_)
    · have h := h.1 hc5
      refine r_iconst (y := m12_call_) (v := 0) dX12_call__49 (by decide) ?_
      exact h
    · have h := h.2 hc5
      refine r_aload_n (y := m12_call_) dX12_call__39 rfl rfl ?_
      refine r_iload_n (y := m12_call_) dX12_call__40 rfl rfl ?_
      refine r_iload (y := m12_call_) dX12_call__41 rfl ?_
      refine r_callV (y := m12_call_) (As := [(.int (mI m 681 (Int32.toNatClampNeg a0))), (.int (mI m 673 (Int32.toNatClampNeg (mI m 678 (Int32.toNatClampNeg a0)))))]) (b := 668) (ci := 12) dX12_call__43 rfl k12_decide lm_X12_273 rfl ⟨by decide, by decide⟩ (so_668 hm) (by decide) rfl (Nat.le_of_ble_eq_true rfl) (C.mono h ?_)
      rintro _ m6 ⟨x8, rfl, hm7, h⟩
      refine ⟨_, rfl, ?_⟩
      refine r_goto (y := m12_call_) (tgt := 50) dX12_call__46 (by decide) ?_
      exact h
  · have h := h.2 hc4
    refine r_aload_n (y := m12_call_) dX12_call__27 rfl rfl ?_
    refine r_iload_n (y := m12_call_) dX12_call__28 rfl rfl ?_
    refine r_callV (y := m12_call_) (As := [(.int (mI m 681 (Int32.toNatClampNeg a0)))]) (b := 668) (ci := 12) dX12_call__29 rfl k12_fail lm_X12_270 rfl ⟨by decide, by decide⟩ (so_668 hm) (by decide) rfl (Nat.le_of_ble_eq_true rfl) (C.mono h ?_)
    rintro _ m9 ⟨rfl, hm10, h⟩
    refine ⟨none, rfl, ?_⟩
    exact r_ret (y := m12_call_) dX12_call__32 rfl h
set_option maxHeartbeats 4000000 in
set_option maxRecDepth 100000 in
theorem u12_call__50 {m : Mm} {K : Option Value ⊕ String → Mm → Prop} (hm : St m) {v1 : Int32} {v2 : Int32} {v3 : Int32} {v4 : Int32} {s0 : Int32}  (h : ((¬ (mI m 668 29) = 0 → V m12_call_ 63 [some (.ref 668), some (.int v1), some (.int v2), some (.int v3), some (.int v4), some (.int s0), none] [] m K) ∧ ((mI m 668 29) = 0 → C m12_step [(.ref 668)] m (fun o m2 => o = .inl none ∧ St m2 ∧ V m12_call_ 63 [some (.ref 668), some (.int v1), some (.int v2), some (.int v3), some (.int v4), some (.int s0), none] [] m2 K)))) : V m12_call_ 50 [some (.ref 668), some (.int v1), some (.int v2), some (.int v3), some (.int v4), none, none] [(.int s0)] m K := by
  refine r_istore (y := m12_call_) (L' := [some (.ref 668), some (.int v1), some (.int v2), some (.int v3), some (.int v4), some (.int s0), none]) dX12_call__50 (Nat.le_of_ble_eq_true rfl) rfl ?_
  refine r_aload_n (y := m12_call_) dX12_call__52 rfl rfl ?_
  refine g_X12_245 (y := m12_call_) rfl dX12_call__53 hm ?_
  refine r_if_ne (y := m12_call_) (tgt := 63) dX12_call__56 (by decide) (fun hc1 => ?_) (fun hc1 => ?_)
  · have h := h.1 hc1
    exact h
  · have h := h.2 hc1
    refine r_aload_n (y := m12_call_) dX12_call__59 rfl rfl ?_
    refine r_callV (y := m12_call_) (As := []) (b := 668) (ci := 12) dX12_call__60 rfl k12_step lm_X12_254 rfl ⟨by decide, by decide⟩ (so_668 hm) (by decide) rfl (Nat.le_of_ble_eq_true rfl) (C.mono h ?_)
    rintro _ m2 ⟨rfl, hm3, h⟩
    refine ⟨none, rfl, ?_⟩
    exact h
set_option maxHeartbeats 4000000 in
set_option maxRecDepth 100000 in
theorem u12_call__63 {m : Mm} {K : Option Value ⊕ String → Mm → Prop} (hm : St m) {v1 : Int32} {v2 : Int32} {v3 : Int32} {v4 : Int32} {v5 : Int32}  (h : (((mI m 668 29) = 0 → vp_in ((24 * v2) + v5) 192 ∧ C m12_newNames [(.ref 668)] m (fun o m3 => ∃ x5 : Int32, o = .inl (some (.int x5)) ∧ St m3 ∧ vp_in v1 6000 ∧ vp_in v1 6000 ∧ C m12_task [(.ref 668), (.int 6), (.int v1), (.int 0), (.int 0)] (mSetI (mSetI m3 682 (Int32.toNatClampNeg v1) x5) 683 (Int32.toNatClampNeg v1) (mI m 674 (Int32.toNatClampNeg ((24 * v2) + v5)))) (fun o m8 => o = .inl none ∧ St m8 ∧ vp_in v2 8 ∧ (((mI m8 669 (Int32.toNatClampNeg v2)) ≤ 1 → V m12_call_ 140 [some (.ref 668), some (.int v1), some (.int v2), some (.int v3), some (.int v4), some (.int v5), some (.int (mI m 674 (Int32.toNatClampNeg ((24 * v2) + v5))))] [] m8 K) ∧ (¬ (mI m8 669 (Int32.toNatClampNeg v2)) ≤ 1 → C m12_patternAt [(.int (mI m 674 (Int32.toNatClampNeg ((24 * v2) + v5)))), (.int 1)] m8 (fun o m12 => ∃ x14 : Int32, o = .inl (some (.int x14)) ∧ St m12 ∧ vp_in v1 6000 ∧ C m12_task [(.ref 668), (.int 4), (.int x14), (.int (mI m12 680 (Int32.toNatClampNeg v1))), (.int v1)] m12 (fun o m16 => o = .inl none ∧ St m16 ∧ V m12_call_ 140 [some (.ref 668), some (.int v1), some (.int v2), some (.int v3), some (.int v4), some (.int v5), some (.int (mI m 674 (Int32.toNatClampNeg ((24 * v2) + v5))))] [] m16 K))))))) ∧ (¬ (mI m 668 29) = 0 → K (.inl none) m))) : V m12_call_ 63 [some (.ref 668), some (.int v1), some (.int v2), some (.int v3), some (.int v4), some (.int v5), none] [] m K := by
  refine r_aload_n (y := m12_call_) dX12_call__63 rfl rfl ?_
  refine g_X12_245 (y := m12_call_) rfl dX12_call__64 hm ?_
  refine r_if_eq (y := m12_call_) (tgt := 71) dX12_call__67 (by decide) (fun hc1 => ?_) (fun hc1 => ?_)
  · have h := h.1 hc1
    refine r_aload_n (y := m12_call_) dX12_call__71 rfl rfl ?_
    refine g_X12_26 (y := m12_call_) rfl dX12_call__72 hm ?_
    refine r_bipush (y := m12_call_) (v := 24) dX12_call__75 (by decide) ?_
    refine r_iload_n (y := m12_call_) dX12_call__77 rfl rfl ?_
    refine r_imul (y := m12_call_) dX12_call__78 ?_
    refine r_iload (y := m12_call_) dX12_call__79 rfl ?_
    refine r_iadd (y := m12_call_) dX12_call__81 ?_
    obtain ⟨hb2, h⟩ := h
    refine r_iald (y := m12_call_) (n := 192) dX12_call__82 (sa_674 hm) hb2 ?_
    refine r_istore (y := m12_call_) (L' := [some (.ref 668), some (.int v1), some (.int v2), some (.int v3), some (.int v4), some (.int v5), some (.int (mI m 674 (Int32.toNatClampNeg ((24 * v2) + v5))))]) dX12_call__83 (Nat.le_of_ble_eq_true rfl) rfl ?_
    refine r_aload_n (y := m12_call_) dX12_call__85 rfl rfl ?_
    refine g_X12_50 (y := m12_call_) rfl dX12_call__86 hm ?_
    refine r_iload_n (y := m12_call_) dX12_call__89 rfl rfl ?_
    refine r_aload_n (y := m12_call_) dX12_call__90 rfl rfl ?_
    refine r_callV (y := m12_call_) (As := []) (b := 668) (ci := 12) dX12_call__91 rfl k12_newNames lm_X12_276 rfl ⟨by decide, by decide⟩ (so_668 hm) (by decide) rfl (Nat.le_of_ble_eq_true rfl) (C.mono h ?_)
    rintro _ m3 ⟨x5, rfl, hm4, h⟩
    refine ⟨_, rfl, ?_⟩
    obtain ⟨hb6, h⟩ := h
    refine r_iast (y := m12_call_) (n := 6000) dX12_call__94 (sa_682 hm4) hb6 ?_
    refine r_aload_n (y := m12_call_) dX12_call__95 rfl rfl ?_
    refine g_X12_53 (y := m12_call_) rfl dX12_call__96 (St.i hm4) ?_
    refine r_iload_n (y := m12_call_) dX12_call__99 rfl rfl ?_
    refine r_iload (y := m12_call_) dX12_call__100 rfl ?_
    obtain ⟨hb7, h⟩ := h
    refine r_iast (y := m12_call_) (n := 6000) dX12_call__102 (sa_683 (St.i hm4)) hb7 ?_
    refine r_aload_n (y := m12_call_) dX12_call__103 rfl rfl ?_
    refine r_bipush (y := m12_call_) (v := 6) dX12_call__104 (by decide) ?_
    refine r_iload_n (y := m12_call_) dX12_call__106 rfl rfl ?_
    refine r_iconst (y := m12_call_) (v := 0) dX12_call__107 (by decide) ?_
    refine r_iconst (y := m12_call_) (v := 0) dX12_call__108 (by decide) ?_
    refine r_callV (y := m12_call_) (As := [(.int 6), (.int v1), (.int 0), (.int 0)]) (b := 668) (ci := 12) dX12_call__109 rfl k12_task lm_X12_260 rfl ⟨by decide, by decide⟩ (so_668 (St.i (St.i hm4))) (by decide) rfl (Nat.le_of_ble_eq_true rfl) (C.mono h ?_)
    rintro _ m8 ⟨rfl, hm9, h⟩
    refine ⟨none, rfl, ?_⟩
    refine r_aload_n (y := m12_call_) dX12_call__112 rfl rfl ?_
    refine g_X12_7 (y := m12_call_) rfl dX12_call__113 hm9 ?_
    refine r_iload_n (y := m12_call_) dX12_call__116 rfl rfl ?_
    obtain ⟨hb10, h⟩ := h
    refine r_iald (y := m12_call_) (n := 8) dX12_call__117 (sa_669 hm9) hb10 ?_
    refine r_iconst (y := m12_call_) (v := 1) dX12_call__118 (by decide) ?_
    refine r_icmp_le (y := m12_call_) (tgt := 140) dX12_call__119 (by decide) (fun hc11 => ?_) (fun hc11 => ?_)
    · have h := h.1 hc11
      exact h
    · have h := h.2 hc11
      refine r_aload_n (y := m12_call_) dX12_call__122 rfl rfl ?_
      refine r_iconst (y := m12_call_) (v := 4) dX12_call__123 (by decide) ?_
      refine r_iload (y := m12_call_) dX12_call__124 rfl ?_
      refine r_iconst (y := m12_call_) (v := 1) dX12_call__126 (by decide) ?_
      refine r_callS (y := m12_call_) (As := [(.int (mI m 674 (Int32.toNatClampNeg ((24 * v2) + v5)))), (.int 1)]) dX12_call__127 rfl k12_patternAt lm_X12_194 rfl ⟨by decide, by decide⟩ (Nat.le_of_ble_eq_true rfl) (C.mono h ?_)
      rintro _ m12 ⟨x14, rfl, hm13, h⟩
      refine ⟨_, rfl, ?_⟩
      refine r_aload_n (y := m12_call_) dX12_call__130 rfl rfl ?_
      refine g_X12_44 (y := m12_call_) rfl dX12_call__131 hm13 ?_
      refine r_iload_n (y := m12_call_) dX12_call__134 rfl rfl ?_
      obtain ⟨hb15, h⟩ := h
      refine r_iald (y := m12_call_) (n := 6000) dX12_call__135 (sa_680 hm13) hb15 ?_
      refine r_iload_n (y := m12_call_) dX12_call__136 rfl rfl ?_
      refine r_callV (y := m12_call_) (As := [(.int 4), (.int x14), (.int (mI m12 680 (Int32.toNatClampNeg v1))), (.int v1)]) (b := 668) (ci := 12) dX12_call__137 rfl k12_task lm_X12_260 rfl ⟨by decide, by decide⟩ (so_668 hm13) (by decide) rfl (Nat.le_of_ble_eq_true rfl) (C.mono h ?_)
      rintro _ m16 ⟨rfl, hm17, h⟩
      refine ⟨none, rfl, ?_⟩
      exact h
  · have h := h.2 hc1
    exact r_ret (y := m12_call_) dX12_call__70 rfl h
set_option maxHeartbeats 4000000 in
set_option maxRecDepth 100000 in
theorem u12_call__140 {m : Mm} {K : Option Value ⊕ String → Mm → Prop} (hm : St m) {v1 : Int32} {v2 : Int32} {v3 : Int32} {v4 : Int32} {v5 : Int32} {v6 : Int32}  (h : vp_in v2 8 ∧ (((mI m 669 (Int32.toNatClampNeg v2)) ≤ 0 → V m12_call_ 167 [some (.ref 668), some (.int v1), some (.int v2), some (.int v3), some (.int v4), some (.int v5), some (.int v6)] [] m K) ∧ (¬ (mI m 669 (Int32.toNatClampNeg v2)) ≤ 0 → C m12_patternAt [(.int v6), (.int 0)] m (fun o m3 => ∃ x5 : Int32, o = .inl (some (.int x5)) ∧ St m3 ∧ vp_in v1 6000 ∧ C m12_task [(.ref 668), (.int 4), (.int x5), (.int (mI m3 679 (Int32.toNatClampNeg v1))), (.int v1)] m3 (fun o m7 => o = .inl none ∧ St m7 ∧ V m12_call_ 167 [some (.ref 668), some (.int v1), some (.int v2), some (.int v3), some (.int v4), some (.int v5), some (.int v6)] [] m7 K))))) : V m12_call_ 140 [some (.ref 668), some (.int v1), some (.int v2), some (.int v3), some (.int v4), some (.int v5), some (.int v6)] [] m K := by
  refine r_aload_n (y := m12_call_) dX12_call__140 rfl rfl ?_
  refine g_X12_7 (y := m12_call_) rfl dX12_call__141 hm ?_
  refine r_iload_n (y := m12_call_) dX12_call__144 rfl rfl ?_
  obtain ⟨hb1, h⟩ := h
  refine r_iald (y := m12_call_) (n := 8) dX12_call__145 (sa_669 hm) hb1 ?_
  refine r_if_le (y := m12_call_) (tgt := 167) dX12_call__146 (by decide) (fun hc2 => ?_) (fun hc2 => ?_)
  · have h := h.1 hc2
    exact h
  · have h := h.2 hc2
    refine r_aload_n (y := m12_call_) dX12_call__149 rfl rfl ?_
    refine r_iconst (y := m12_call_) (v := 4) dX12_call__150 (by decide) ?_
    refine r_iload (y := m12_call_) dX12_call__151 rfl ?_
    refine r_iconst (y := m12_call_) (v := 0) dX12_call__153 (by decide) ?_
    refine r_callS (y := m12_call_) (As := [(.int v6), (.int 0)]) dX12_call__154 rfl k12_patternAt lm_X12_194 rfl ⟨by decide, by decide⟩ (Nat.le_of_ble_eq_true rfl) (C.mono h ?_)
    rintro _ m3 ⟨x5, rfl, hm4, h⟩
    refine ⟨_, rfl, ?_⟩
    refine r_aload_n (y := m12_call_) dX12_call__157 rfl rfl ?_
    refine g_X12_41 (y := m12_call_) rfl dX12_call__158 hm4 ?_
    refine r_iload_n (y := m12_call_) dX12_call__161 rfl rfl ?_
    obtain ⟨hb6, h⟩ := h
    refine r_iald (y := m12_call_) (n := 6000) dX12_call__162 (sa_679 hm4) hb6 ?_
    refine r_iload_n (y := m12_call_) dX12_call__163 rfl rfl ?_
    refine r_callV (y := m12_call_) (As := [(.int 4), (.int x5), (.int (mI m3 679 (Int32.toNatClampNeg v1))), (.int v1)]) (b := 668) (ci := 12) dX12_call__164 rfl k12_task lm_X12_260 rfl ⟨by decide, by decide⟩ (so_668 hm4) (by decide) rfl (Nat.le_of_ble_eq_true rfl) (C.mono h ?_)
    rintro _ m7 ⟨rfl, hm8, h⟩
    refine ⟨none, rfl, ?_⟩
    exact h
set_option maxHeartbeats 4000000 in
set_option maxRecDepth 100000 in
theorem u12_call__167 {m : Mm} {K : Option Value ⊕ String → Mm → Prop} (hm : St m) {v1 : Int32} {v2 : Int32} {v3 : Int32} {v4 : Int32} {v5 : Int32} {v6 : Int32}  (h : K (.inl none) m) : V m12_call_ 167 [some (.ref 668), some (.int v1), some (.int v2), some (.int v3), some (.int v4), some (.int v5), some (.int v6)] [] m K := by
  exact r_ret (y := m12_call_) dX12_call__167 rfl h
set_option maxHeartbeats 4000000 in
set_option maxRecDepth 100000 in
theorem u12_tell {m : Mm} {K : Option Value ⊕ String → Mm → Prop} (hm : St m) {a0 : Int32} {a1 : Int32}  (h : ((a1 = (-1) → V m12_tell 22 [some (.ref 668), some (.int a0), some (.int a1), some (.int 0), some (.int 0), some (.int 0), none, none, none] [] m K) ∧ (¬ a1 = (-1) → vp_in 0 6000 ∧ V m12_tell 22 [some (.ref 668), some (.int a0), some (.int a1), some (.int 1), some (.int 0), some (.int 0), none, none, none] [] (mSetI m 702 0 a1) K))) : V m12_tell 0 [some (.ref 668), some (.int a0), some (.int a1), none, none, none, none, none, none] [] m K := by
  refine r_iconst (y := m12_tell) (v := 0) dX12_tell_0 (by decide) ?_
  refine r_istore_n (y := m12_tell) (L' := [some (.ref 668), some (.int a0), some (.int a1), some (.int 0), none, none, none, none, none]) dX12_tell_1 rfl (Nat.le_of_ble_eq_true rfl) rfl ?_
  refine r_iconst (y := m12_tell) (v := 0) dX12_tell_2 (by decide) ?_
  refine r_istore (y := m12_tell) (L' := [some (.ref 668), some (.int a0), some (.int a1), some (.int 0), some (.int 0), none, none, none, none]) dX12_tell_3 (Nat.le_of_ble_eq_true rfl) rfl ?_
  refine r_iconst (y := m12_tell) (v := 0) dX12_tell_5 (by decide) ?_
  refine r_istore (y := m12_tell) (L' := [some (.ref 668), some (.int a0), some (.int a1), some (.int 0), some (.int 0), some (.int 0), none, none, none]) dX12_tell_6 (Nat.le_of_ble_eq_true rfl) rfl ?_
  refine r_iload_n (y := m12_tell) dX12_tell_8 rfl rfl ?_
  refine r_iconst (y := m12_tell) (v := (-1)) dX12_tell_9 (by decide) ?_
  refine r_icmp_eq (y := m12_tell) (tgt := 22) dX12_tell_10 (by decide) (fun hc1 => ?_) (fun hc1 => ?_)
  · have h := h.1 hc1
    exact h
  · have h := h.2 hc1
    refine r_aload_n (y := m12_tell) dX12_tell_13 rfl rfl ?_
    refine g_X12_110 (y := m12_tell) rfl dX12_tell_14 hm ?_
    refine r_iconst (y := m12_tell) (v := 0) dX12_tell_17 (by decide) ?_
    refine r_iload_n (y := m12_tell) dX12_tell_18 rfl rfl ?_
    obtain ⟨hb2, h⟩ := h
    refine r_iast (y := m12_tell) (n := 6000) dX12_tell_19 (sa_702 hm) hb2 ?_
    refine r_iconst (y := m12_tell) (v := 1) dX12_tell_20 (by decide) ?_
    refine r_istore_n (y := m12_tell) (L' := [some (.ref 668), some (.int a0), some (.int a1), some (.int 1), some (.int 0), some (.int 0), none, none, none]) dX12_tell_21 rfl (Nat.le_of_ble_eq_true rfl) rfl ?_
    exact h
set_option maxHeartbeats 4000000 in
set_option maxRecDepth 100000 in
theorem u12_tell_22 {m : Mm} {K : Option Value ⊕ String → Mm → Prop} (hm : St m) {v1 : Int32} {v2 : Int32} {v3 : Int32} {v4 : Int32} {v5 : Int32}  (h : ((v3 ≤ 0 → V m12_tell 205 [some (.ref 668), some (.int v1), some (.int v2), some (.int v3), some (.int v4), some (.int v5), none, none, none] [] m K) ∧ (¬ v3 ≤ 0 → ((40 ≤ v5 → V m12_tell 205 [some (.ref 668), some (.int v1), some (.int v2), some (.int v3), some (.int v4), some (.int v5), none, none, none] [] m K) ∧ (¬ 40 ≤ v5 → vp_in (v3 + (-1)) 6000 ∧ C m12_root [(.ref 668), (.int (mI m 702 (Int32.toNatClampNeg (v3 + (-1)))))] m (fun o m4 => ∃ x6 : Int32, o = .inl (some (.int x6)) ∧ St m4 ∧ vp_in x6 6000 ∧ vp_in x6 6000 ∧ ((¬ (mI m4 677 (Int32.toNatClampNeg x6)) = 0 → vp_in x6 6000 ∧ (((mI m4 680 (Int32.toNatClampNeg x6)) = (-1) → V m12_tell 158 [some (.ref 668), some (.int v1), some (.int v2), some (.int (v3 + (-1))), some (.int v4), some (.int v5), some (.int x6), some (.int (mI m4 678 (Int32.toNatClampNeg x6))), none] [] m4 K) ∧ (¬ (mI m4 680 (Int32.toNatClampNeg x6)) = (-1) → vp_in x6 6000 ∧ vp_in (v3 + (-1)) 6000 ∧ V m12_tell 158 [some (.ref 668), some (.int v1), some (.int v2), some (.int ((v3 + (-1)) + 1)), some (.int v4), some (.int v5), some (.int x6), some (.int (mI m4 678 (Int32.toNatClampNeg x6))), none] [] (mSetI m4 702 (Int32.toNatClampNeg (v3 + (-1))) (mI m4 680 (Int32.toNatClampNeg x6))) K))) ∧ ((mI m4 677 (Int32.toNatClampNeg x6)) = 0 → V m12_tell 70 [some (.ref 668), some (.int v1), some (.int v2), some (.int (v3 + (-1))), some (.int v4), some (.int v5), some (.int x6), some (.int (mI m4 678 (Int32.toNatClampNeg x6))), some (.int 0)] [] m4 K)))))))) : V m12_tell 22 [some (.ref 668), some (.int v1), some (.int v2), some (.int v3), some (.int v4), some (.int v5), none, none, none] [] m K := by
  refine r_iload_n (y := m12_tell) dX12_tell_22 rfl rfl ?_
  refine r_if_le (y := m12_tell) (tgt := 205) dX12_tell_23 (by decide) (fun hc1 => ?_) (fun hc1 => ?_)
  · have h := h.1 hc1
    exact h
  · have h := h.2 hc1
    refine r_iload (y := m12_tell) dX12_tell_26 rfl ?_
    refine r_bipush (y := m12_tell) (v := 40) dX12_tell_28 (by decide) ?_
    refine r_icmp_ge (y := m12_tell) (tgt := 205) dX12_tell_30 (by decide) (fun hc2 => ?_) (fun hc2 => ?_)
    · have h := h.1 hc2
      exact h
    · have h := h.2 hc2
      refine r_iinc (y := m12_tell) (v := (v3 + (-1))) (L' := [some (.ref 668), some (.int v1), some (.int v2), some (.int (v3 + (-1))), some (.int v4), some (.int v5), none, none, none]) dX12_tell_33 rfl (by rfl) rfl ?_
      refine r_aload_n (y := m12_tell) dX12_tell_36 rfl rfl ?_
      refine r_aload_n (y := m12_tell) dX12_tell_37 rfl rfl ?_
      refine g_X12_110 (y := m12_tell) rfl dX12_tell_38 hm ?_
      refine r_iload_n (y := m12_tell) dX12_tell_41 rfl rfl ?_
      obtain ⟨hb3, h⟩ := h
      refine r_iald (y := m12_tell) (n := 6000) dX12_tell_42 (sa_702 hm) hb3 ?_
      refine r_callV (y := m12_tell) (As := [(.int (mI m 702 (Int32.toNatClampNeg (v3 + (-1)))))]) (b := 668) (ci := 12) dX12_tell_43 rfl k12_root lm_X12_280 rfl ⟨by decide, by decide⟩ (so_668 hm) (by decide) rfl (Nat.le_of_ble_eq_true rfl) (C.mono h ?_)
      rintro _ m4 ⟨x6, rfl, hm5, h⟩
      refine ⟨_, rfl, ?_⟩
      refine r_istore (y := m12_tell) (L' := [some (.ref 668), some (.int v1), some (.int v2), some (.int (v3 + (-1))), some (.int v4), some (.int v5), some (.int x6), none, none]) dX12_tell_46 (Nat.le_of_ble_eq_true rfl) rfl ?_
      refine r_aload_n (y := m12_tell) dX12_tell_48 rfl rfl ?_
      refine g_X12_38 (y := m12_tell) rfl dX12_tell_49 hm5 ?_
      refine r_iload (y := m12_tell) dX12_tell_52 rfl ?_
      obtain ⟨hb7, h⟩ := h
      refine r_iald (y := m12_tell) (n := 6000) dX12_tell_54 (sa_678 hm5) hb7 ?_
      refine r_istore (y := m12_tell) (L' := [some (.ref 668), some (.int v1), some (.int v2), some (.int (v3 + (-1))), some (.int v4), some (.int v5), some (.int x6), some (.int (mI m4 678 (Int32.toNatClampNeg x6))), none]) dX12_tell_55 (Nat.le_of_ble_eq_true rfl) rfl ?_
      refine r_aload_n (y := m12_tell) dX12_tell_57 rfl rfl ?_
      refine g_X12_35 (y := m12_tell) rfl dX12_tell_58 hm5 ?_
      refine r_iload (y := m12_tell) dX12_tell_61 rfl ?_
      obtain ⟨hb8, h⟩ := h
      refine r_iald (y := m12_tell) (n := 6000) dX12_tell_63 (sa_677 hm5) hb8 ?_
      refine r_if_ne (y := m12_tell) (tgt := 131) dX12_tell_64 (by decide) (fun hc9 => ?_) (fun hc9 => ?_)
      · have h := h.1 hc9
        refine r_aload_n (y := m12_tell) dX12_tell_131 rfl rfl ?_
        refine g_X12_44 (y := m12_tell) rfl dX12_tell_132 hm5 ?_
        refine r_iload (y := m12_tell) dX12_tell_135 rfl ?_
        obtain ⟨hb10, h⟩ := h
        refine r_iald (y := m12_tell) (n := 6000) dX12_tell_137 (sa_680 hm5) hb10 ?_
        refine r_iconst (y := m12_tell) (v := (-1)) dX12_tell_138 (by decide) ?_
        refine r_icmp_eq (y := m12_tell) (tgt := 158) dX12_tell_139 (by decide) (fun hc11 => ?_) (fun hc11 => ?_)
        · have h := h.1 hc11
          exact h
        · have h := h.2 hc11
          refine r_aload_n (y := m12_tell) dX12_tell_142 rfl rfl ?_
          refine g_X12_110 (y := m12_tell) rfl dX12_tell_143 hm5 ?_
          refine r_iload_n (y := m12_tell) dX12_tell_146 rfl rfl ?_
          refine r_aload_n (y := m12_tell) dX12_tell_147 rfl rfl ?_
          refine g_X12_44 (y := m12_tell) rfl dX12_tell_148 hm5 ?_
          refine r_iload (y := m12_tell) dX12_tell_151 rfl ?_
          obtain ⟨hb12, h⟩ := h
          refine r_iald (y := m12_tell) (n := 6000) dX12_tell_153 (sa_680 hm5) hb12 ?_
          obtain ⟨hb13, h⟩ := h
          refine r_iast (y := m12_tell) (n := 6000) dX12_tell_154 (sa_702 hm5) hb13 ?_
          refine r_iinc (y := m12_tell) (v := ((v3 + (-1)) + 1)) (L' := [some (.ref 668), some (.int v1), some (.int v2), some (.int ((v3 + (-1)) + 1)), some (.int v4), some (.int v5), some (.int x6), some (.int (mI m4 678 (Int32.toNatClampNeg x6))), none]) dX12_tell_155 rfl (by rfl) rfl ?_
          exact h
      · have h := h.2 hc9
        refine r_iconst (y := m12_tell) (v := 0) dX12_tell_67 (by decide) ?_
        refine r_istore (y := m12_tell) (L' := [some (.ref 668), some (.int v1), some (.int v2), some (.int (v3 + (-1))), some (.int v4), some (.int v5), some (.int x6), some (.int (mI m4 678 (Int32.toNatClampNeg x6))), some (.int 0)]) dX12_tell_68 (Nat.le_of_ble_eq_true rfl) rfl ?_
        exact h
set_option maxHeartbeats 4000000 in
set_option maxRecDepth 100000 in
theorem u12_tell_205 {m : Mm} {K : Option Value ⊕ String → Mm → Prop} (hm : St m) {v1 : Int32} {v2 : Int32} {v3 : Int32} {v4 : Int32} {v5 : Int32}  (h : vp_in v1 70 ∧ K (.inl none) (mSetI m 703 (Int32.toNatClampNeg v1) v5)) : V m12_tell 205 [some (.ref 668), some (.int v1), some (.int v2), some (.int v3), some (.int v4), some (.int v5), none, none, none] [] m K := by
  refine r_aload_n (y := m12_tell) dX12_tell_205 rfl rfl ?_
  refine g_X12_113 (y := m12_tell) rfl dX12_tell_206 hm ?_
  refine r_iload_n (y := m12_tell) dX12_tell_209 rfl rfl ?_
  refine r_iload (y := m12_tell) dX12_tell_210 rfl ?_
  obtain ⟨hb1, h⟩ := h
  refine r_iast (y := m12_tell) (n := 70) dX12_tell_212 (sa_703 hm) hb1 ?_
  exact r_ret (y := m12_tell) dX12_tell_213 rfl h
set_option maxHeartbeats 4000000 in
set_option maxRecDepth 100000 in
theorem u12_tell_158 {m : Mm} {K : Option Value ⊕ String → Mm → Prop} (hm : St m) {v1 : Int32} {v2 : Int32} {v3 : Int32} {v4 : Int32} {v5 : Int32} {v6 : Int32} {v7 : Int32}  (h : vp_in v6 6000 ∧ (((mI m 679 (Int32.toNatClampNeg v6)) = (-1) → V m12_tell 185 [some (.ref 668), some (.int v1), some (.int v2), some (.int v3), some (.int v4), some (.int v5), some (.int v6), some (.int v7), none] [] m K) ∧ (¬ (mI m 679 (Int32.toNatClampNeg v6)) = (-1) → vp_in v6 6000 ∧ vp_in v3 6000 ∧ V m12_tell 185 [some (.ref 668), some (.int v1), some (.int v2), some (.int (v3 + 1)), some (.int v4), some (.int v5), some (.int v6), some (.int v7), none] [] (mSetI m 702 (Int32.toNatClampNeg v3) (mI m 679 (Int32.toNatClampNeg v6))) K))) : V m12_tell 158 [some (.ref 668), some (.int v1), some (.int v2), some (.int v3), some (.int v4), some (.int v5), some (.int v6), some (.int v7), none] [] m K := by
  refine r_aload_n (y := m12_tell) dX12_tell_158 rfl rfl ?_
  refine g_X12_41 (y := m12_tell) rfl dX12_tell_159 hm ?_
  refine r_iload (y := m12_tell) dX12_tell_162 rfl ?_
  obtain ⟨hb1, h⟩ := h
  refine r_iald (y := m12_tell) (n := 6000) dX12_tell_164 (sa_679 hm) hb1 ?_
  refine r_iconst (y := m12_tell) (v := (-1)) dX12_tell_165 (by decide) ?_
  refine r_icmp_eq (y := m12_tell) (tgt := 185) dX12_tell_166 (by decide) (fun hc2 => ?_) (fun hc2 => ?_)
  · have h := h.1 hc2
    exact h
  · have h := h.2 hc2
    refine r_aload_n (y := m12_tell) dX12_tell_169 rfl rfl ?_
    refine g_X12_110 (y := m12_tell) rfl dX12_tell_170 hm ?_
    refine r_iload_n (y := m12_tell) dX12_tell_173 rfl rfl ?_
    refine r_aload_n (y := m12_tell) dX12_tell_174 rfl rfl ?_
    refine g_X12_41 (y := m12_tell) rfl dX12_tell_175 hm ?_
    refine r_iload (y := m12_tell) dX12_tell_178 rfl ?_
    obtain ⟨hb3, h⟩ := h
    refine r_iald (y := m12_tell) (n := 6000) dX12_tell_180 (sa_679 hm) hb3 ?_
    obtain ⟨hb4, h⟩ := h
    refine r_iast (y := m12_tell) (n := 6000) dX12_tell_181 (sa_702 hm) hb4 ?_
    refine r_iinc (y := m12_tell) (v := (v3 + 1)) (L' := [some (.ref 668), some (.int v1), some (.int v2), some (.int (v3 + 1)), some (.int v4), some (.int v5), some (.int v6), some (.int v7), none]) dX12_tell_182 rfl (by rfl) rfl ?_
    exact h
set_option maxHeartbeats 4000000 in
set_option maxRecDepth 100000 in
theorem u12_tell_70 {m : Mm} {K : Option Value ⊕ String → Mm → Prop} (hm : St m) {v1 : Int32} {v2 : Int32} {v3 : Int32} {v4 : Int32} {v5 : Int32} {v6 : Int32} {v7 : Int32} {v8 : Int32}  (h : ((v4 ≤ v8 → V m12_tell 95 [some (.ref 668), some (.int v1), some (.int v2), some (.int v3), some (.int v4), some (.int v5), some (.int v6), some (.int v7), some (.int v8)] [] m K) ∧ (¬ v4 ≤ v8 → vp_in v8 40 ∧ (((mI m 712 (Int32.toNatClampNeg v8)) = v6 → V m12_tell 95 [some (.ref 668), some (.int v1), some (.int v2), some (.int v3), some (.int v4), some (.int v5), some (.int v6), some (.int v7), some (.int v8)] [] m K) ∧ (¬ (mI m 712 (Int32.toNatClampNeg v8)) = v6 → V m12_tell 70 [some (.ref 668), some (.int v1), some (.int v2), some (.int v3), some (.int v4), some (.int v5), some (.int v6), some (.int v7), some (.int (v8 + 1))] [] m K))))) : V m12_tell 70 [some (.ref 668), some (.int v1), some (.int v2), some (.int v3), some (.int v4), some (.int v5), some (.int v6), some (.int v7), some (.int v8)] [] m K := by
  refine r_iload (y := m12_tell) dX12_tell_70 rfl ?_
  refine r_iload (y := m12_tell) dX12_tell_72 rfl ?_
  refine r_icmp_ge (y := m12_tell) (tgt := 95) dX12_tell_74 (by decide) (fun hc1 => ?_) (fun hc1 => ?_)
  · have h := h.1 hc1
    exact h
  · have h := h.2 hc1
    refine r_aload_n (y := m12_tell) dX12_tell_77 rfl rfl ?_
    refine g_X12_141 (y := m12_tell) rfl dX12_tell_78 hm ?_
    refine r_iload (y := m12_tell) dX12_tell_81 rfl ?_
    obtain ⟨hb2, h⟩ := h
    refine r_iald (y := m12_tell) (n := 40) dX12_tell_83 (sa_712 hm) hb2 ?_
    refine r_iload (y := m12_tell) dX12_tell_84 rfl ?_
    refine r_icmp_eq (y := m12_tell) (tgt := 95) dX12_tell_86 (by decide) (fun hc3 => ?_) (fun hc3 => ?_)
    · have h := h.1 hc3
      exact h
    · have h := h.2 hc3
      refine r_iinc (y := m12_tell) (v := (v8 + 1)) (L' := [some (.ref 668), some (.int v1), some (.int v2), some (.int v3), some (.int v4), some (.int v5), some (.int v6), some (.int v7), some (.int (v8 + 1))]) dX12_tell_89 rfl (by rfl) rfl ?_
      refine r_goto (y := m12_tell) (tgt := 70) dX12_tell_92 (by decide) ?_
      exact h
set_option maxHeartbeats 4000000 in
set_option maxRecDepth 100000 in
theorem u12_tell_185 {m : Mm} {K : Option Value ⊕ String → Mm → Prop} (hm : St m) {v1 : Int32} {v2 : Int32} {v3 : Int32} {v4 : Int32} {v5 : Int32} {v6 : Int32} {v7 : Int32}  (h : vp_in ((40 * v1) + v5) 2800 ∧ V m12_tell 22 [some (.ref 668), some (.int v1), some (.int v2), some (.int v3), some (.int v4), some (.int (v5 + 1)), some (.int v6), some (.int v7), none] [] (mSetI m 704 (Int32.toNatClampNeg ((40 * v1) + v5)) v7) K) : V m12_tell 185 [some (.ref 668), some (.int v1), some (.int v2), some (.int v3), some (.int v4), some (.int v5), some (.int v6), some (.int v7), none] [] m K := by
  refine r_aload_n (y := m12_tell) dX12_tell_185 rfl rfl ?_
  refine g_X12_116 (y := m12_tell) rfl dX12_tell_186 hm ?_
  refine r_bipush (y := m12_tell) (v := 40) dX12_tell_189 (by decide) ?_
  refine r_iload_n (y := m12_tell) dX12_tell_191 rfl rfl ?_
  refine r_imul (y := m12_tell) dX12_tell_192 ?_
  refine r_iload (y := m12_tell) dX12_tell_193 rfl ?_
  refine r_iadd (y := m12_tell) dX12_tell_195 ?_
  refine r_iload (y := m12_tell) dX12_tell_196 rfl ?_
  obtain ⟨hb1, h⟩ := h
  refine r_iast (y := m12_tell) (n := 2800) dX12_tell_198 (sa_704 hm) hb1 ?_
  refine r_iinc (y := m12_tell) (v := (v5 + 1)) (L' := [some (.ref 668), some (.int v1), some (.int v2), some (.int v3), some (.int v4), some (.int (v5 + 1)), some (.int v6), some (.int v7), none]) dX12_tell_199 rfl (by rfl) rfl ?_
  refine r_goto (y := m12_tell) (tgt := 22) dX12_tell_202 (by decide) ?_
  exact h
set_option maxHeartbeats 4000000 in
set_option maxRecDepth 100000 in
theorem u12_tell_95 {m : Mm} {K : Option Value ⊕ String → Mm → Prop} (hm : St m) {v1 : Int32} {v2 : Int32} {v3 : Int32} {v4 : Int32} {v5 : Int32} {v6 : Int32} {v7 : Int32} {v8 : Int32}  (h : vp_in v8 40 ∧ ((¬ v8 = v4 → V m12_tell 118 [some (.ref 668), some (.int v1), some (.int v2), some (.int v3), some (.int v4), some (.int v5), some (.int v6), some (.int v7), some (.int v8)] [(.int 0), (.int v4)] (mSetI m 712 (Int32.toNatClampNeg v8) v6) K) ∧ (v8 = v4 → V m12_tell 118 [some (.ref 668), some (.int v1), some (.int v2), some (.int v3), some (.int v4), some (.int v5), some (.int v6), some (.int v7), some (.int v8)] [(.int 1), (.int v4)] (mSetI m 712 (Int32.toNatClampNeg v8) v6) K))) : V m12_tell 95 [some (.ref 668), some (.int v1), some (.int v2), some (.int v3), some (.int v4), some (.int v5), some (.int v6), some (.int v7), some (.int v8)] [] m K := by
  refine r_aload_n (y := m12_tell) dX12_tell_95 rfl rfl ?_
  refine g_X12_141 (y := m12_tell) rfl dX12_tell_96 hm ?_
  refine r_iload (y := m12_tell) dX12_tell_99 rfl ?_
  refine r_iload (y := m12_tell) dX12_tell_101 rfl ?_
  obtain ⟨hb1, h⟩ := h
  refine r_iast (y := m12_tell) (n := 40) dX12_tell_103 (sa_712 hm) hb1 ?_
  refine r_iload (y := m12_tell) dX12_tell_104 rfl ?_
  refine r_iload (y := m12_tell) dX12_tell_106 rfl ?_
  refine r_iload (y := m12_tell) dX12_tell_108 rfl ?_
  refine r_icmp_ne (y := m12_tell) (tgt := 117) dX12_tell_110 (by decide) (fun hc2 => ?_) (fun hc2 => ?_)
  · have h := h.1 hc2
    refine r_iconst (y := m12_tell) (v := 0) dX12_tell_117 (by decide) ?_
    exact h
  · have h := h.2 hc2
    refine r_iconst (y := m12_tell) (v := 1) dX12_tell_113 (by decide) ?_
    refine r_goto (y := m12_tell) (tgt := 118) dX12_tell_114 (by decide) ?_
    exact h
set_option maxHeartbeats 4000000 in
set_option maxRecDepth 100000 in
theorem u12_tell_118 {m : Mm} {K : Option Value ⊕ String → Mm → Prop} (hm : St m) {v1 : Int32} {v2 : Int32} {v3 : Int32} {v4 : Int32} {v5 : Int32} {v6 : Int32} {v7 : Int32} {v8 : Int32} {s0 : Int32} {s1 : Int32}  (h : V m12_tell 185 [some (.ref 668), some (.int v1), some (.int v2), some (.int v3), some (.int (s0 + s1)), some (.int v5), some (.int v6), some (.int (10 + v8)), some (.int v8)] [] m K) : V m12_tell 118 [some (.ref 668), some (.int v1), some (.int v2), some (.int v3), some (.int v4), some (.int v5), some (.int v6), some (.int v7), some (.int v8)] [(.int s1), (.int s0)] m K := by
  refine r_iadd (y := m12_tell) dX12_tell_118 ?_
  refine r_istore (y := m12_tell) (L' := [some (.ref 668), some (.int v1), some (.int v2), some (.int v3), some (.int (s0 + s1)), some (.int v5), some (.int v6), some (.int v7), some (.int v8)]) dX12_tell_119 (Nat.le_of_ble_eq_true rfl) rfl ?_
  refine r_bipush (y := m12_tell) (v := 10) dX12_tell_121 (by decide) ?_
  refine r_iload (y := m12_tell) dX12_tell_123 rfl ?_
  refine r_iadd (y := m12_tell) dX12_tell_125 ?_
  refine r_istore (y := m12_tell) (L' := [some (.ref 668), some (.int v1), some (.int v2), some (.int v3), some (.int (s0 + s1)), some (.int v5), some (.int v6), some (.int (10 + v8)), some (.int v8)]) dX12_tell_126 (Nat.le_of_ble_eq_true rfl) rfl ?_
  refine r_goto (y := m12_tell) (tgt := 185) dX12_tell_128 (by decide) ?_
  exact h
set_option maxHeartbeats 4000000 in
set_option maxRecDepth 100000 in
theorem u12_isIn {m : Mm} {K : Option Value ⊕ String → Mm → Prop} (hm : St m) {a0 : Int32} {a1 : Int32}  (h : C m12_root [(.ref 668), (.int a1)] (mSetI m 668 46 ((mI m 668 46) + 1)) (fun o m1 => ∃ x3 : Int32, o = .inl (some (.int x3)) ∧ St m1 ∧ vp_in 0 6000 ∧ vp_in 0 6000 ∧ vp_in x3 6000 ∧ V m12_isIn 38 [some (.ref 668), some (.int a0), some (.int a1), some (.int 1), none, none, none] [] (mSetI (mSetI m1 702 0 x3) 701 (Int32.toNatClampNeg x3) (mI m1 668 46)) K)) : V m12_isIn 0 [some (.ref 668), some (.int a0), some (.int a1), none, none, none, none] [] m K := by
  refine r_aload_n (y := m12_isIn) dX12_isIn_0 rfl rfl ?_
  refine r_dup_r (y := m12_isIn) dX12_isIn_1 ?_
  refine g_X12_299 (y := m12_isIn) rfl dX12_isIn_2 hm ?_
  refine r_iconst (y := m12_isIn) (v := 1) dX12_isIn_5 (by decide) ?_
  refine r_iadd (y := m12_isIn) dX12_isIn_6 ?_
  refine p_X12_299 (y := m12_isIn) rfl dX12_isIn_7 hm ?_
  refine r_iconst (y := m12_isIn) (v := 1) dX12_isIn_10 (by decide) ?_
  refine r_istore_n (y := m12_isIn) (L' := [some (.ref 668), some (.int a0), some (.int a1), some (.int 1), none, none, none]) dX12_isIn_11 rfl (Nat.le_of_ble_eq_true rfl) rfl ?_
  refine r_aload_n (y := m12_isIn) dX12_isIn_12 rfl rfl ?_
  refine g_X12_110 (y := m12_isIn) rfl dX12_isIn_13 (St.i hm) ?_
  refine r_iconst (y := m12_isIn) (v := 0) dX12_isIn_16 (by decide) ?_
  refine r_aload_n (y := m12_isIn) dX12_isIn_17 rfl rfl ?_
  refine r_iload_n (y := m12_isIn) dX12_isIn_18 rfl rfl ?_
  refine r_callV (y := m12_isIn) (As := [(.int a1)]) (b := 668) (ci := 12) dX12_isIn_19 rfl k12_root lm_X12_280 rfl ⟨by decide, by decide⟩ (so_668 (St.i hm)) (by decide) rfl (Nat.le_of_ble_eq_true rfl) (C.mono h ?_)
  rintro _ m1 ⟨x3, rfl, hm2, h⟩
  refine ⟨_, rfl, ?_⟩
  obtain ⟨hb4, h⟩ := h
  refine r_iast (y := m12_isIn) (n := 6000) dX12_isIn_22 (sa_702 hm2) hb4 ?_
  refine r_aload_n (y := m12_isIn) dX12_isIn_23 rfl rfl ?_
  refine g_X12_107 (y := m12_isIn) rfl dX12_isIn_24 (St.i hm2) ?_
  refine r_aload_n (y := m12_isIn) dX12_isIn_27 rfl rfl ?_
  refine g_X12_110 (y := m12_isIn) rfl dX12_isIn_28 (St.i hm2) ?_
  refine r_iconst (y := m12_isIn) (v := 0) dX12_isIn_31 (by decide) ?_
  obtain ⟨hb5, h⟩ := h
  refine r_iald (y := m12_isIn) (n := 6000) dX12_isIn_32 (sa_702 (St.i hm2)) hb5 ?_
  refine V.top (b := x3) (by first | rfl | simp [mI_set, mI_setR]) ?_
  refine r_aload_n (y := m12_isIn) dX12_isIn_33 rfl rfl ?_
  refine g_X12_299 (y := m12_isIn) rfl dX12_isIn_34 (St.i hm2) ?_
  refine V.top (b := (mI m1 668 46)) (by first | rfl | simp [mI_set, mI_setR]) ?_
  obtain ⟨hb6, h⟩ := h
  refine r_iast (y := m12_isIn) (n := 6000) dX12_isIn_37 (sa_701 (St.i hm2)) hb6 ?_
  exact h
set_option maxHeartbeats 4000000 in
set_option maxRecDepth 100000 in
theorem u12_isIn_38 {m : Mm} {K : Option Value ⊕ String → Mm → Prop} (hm : St m) {v1 : Int32} {v2 : Int32} {v3 : Int32}  (h : ((v3 ≤ 0 → K (.inl (some (.int 0))) m) ∧ (¬ v3 ≤ 0 → vp_in (v3 + (-1)) 6000 ∧ ((¬ (mI m 702 (Int32.toNatClampNeg (v3 + (-1)))) = v1 → V m12_isIn 64 [some (.ref 668), some (.int v1), some (.int v2), some (.int (v3 + (-1))), some (.int (mI m 702 (Int32.toNatClampNeg (v3 + (-1))))), some (.int 0), none] [] m K) ∧ ((mI m 702 (Int32.toNatClampNeg (v3 + (-1)))) = v1 → K (.inl (some (.int 1))) m))))) : V m12_isIn 38 [some (.ref 668), some (.int v1), some (.int v2), some (.int v3), none, none, none] [] m K := by
  refine r_iload_n (y := m12_isIn) dX12_isIn_38 rfl rfl ?_
  refine r_if_le (y := m12_isIn) (tgt := 174) dX12_isIn_39 (by decide) (fun hc1 => ?_) (fun hc1 => ?_)
  · have h := h.1 hc1
    refine r_iconst (y := m12_isIn) (v := 0) dX12_isIn_174 (by decide) ?_
    exact r_iret (y := m12_isIn) (ty := .boolean) dX12_isIn_175 rfl (by decide) h
  · have h := h.2 hc1
    refine r_iinc (y := m12_isIn) (v := (v3 + (-1))) (L' := [some (.ref 668), some (.int v1), some (.int v2), some (.int (v3 + (-1))), none, none, none]) dX12_isIn_42 rfl (by rfl) rfl ?_
    refine r_aload_n (y := m12_isIn) dX12_isIn_45 rfl rfl ?_
    refine g_X12_110 (y := m12_isIn) rfl dX12_isIn_46 hm ?_
    refine r_iload_n (y := m12_isIn) dX12_isIn_49 rfl rfl ?_
    obtain ⟨hb2, h⟩ := h
    refine r_iald (y := m12_isIn) (n := 6000) dX12_isIn_50 (sa_702 hm) hb2 ?_
    refine r_istore (y := m12_isIn) (L' := [some (.ref 668), some (.int v1), some (.int v2), some (.int (v3 + (-1))), some (.int (mI m 702 (Int32.toNatClampNeg (v3 + (-1))))), none, none]) dX12_isIn_51 (Nat.le_of_ble_eq_true rfl) rfl ?_
    refine r_iload (y := m12_isIn) dX12_isIn_53 rfl ?_
    refine r_iload_n (y := m12_isIn) dX12_isIn_55 rfl rfl ?_
    refine r_icmp_ne (y := m12_isIn) (tgt := 61) dX12_isIn_56 (by decide) (fun hc3 => ?_) (fun hc3 => ?_)
    · have h := h.1 hc3
      refine r_iconst (y := m12_isIn) (v := 0) dX12_isIn_61 (by decide) ?_
      refine r_istore (y := m12_isIn) (L' := [some (.ref 668), some (.int v1), some (.int v2), some (.int (v3 + (-1))), some (.int (mI m 702 (Int32.toNatClampNeg (v3 + (-1))))), some (.int 0), none]) dX12_isIn_62 (Nat.le_of_ble_eq_true rfl) rfl ?_
      exact h
    · have h := h.2 hc3
      refine r_iconst (y := m12_isIn) (v := 1) dX12_isIn_59 (by decide) ?_
      exact r_iret (y := m12_isIn) (ty := .boolean) dX12_isIn_60 rfl (by decide) h
set_option maxHeartbeats 4000000 in
set_option maxRecDepth 100000 in
theorem u12_isIn_64 {m : Mm} {K : Option Value ⊕ String → Mm → Prop} (hm : St m) {v1 : Int32} {v2 : Int32} {v3 : Int32} {v4 : Int32} {v5 : Int32}  (h : ((2 ≤ v5 → V m12_isIn 171 [some (.ref 668), some (.int v1), some (.int v2), some (.int v3), some (.int v4), some (.int v5), none] [] m K) ∧ (¬ 2 ≤ v5 → vp_in v4 6000 ∧ ((¬ (mI m 677 (Int32.toNatClampNeg v4)) = 1 → V m12_isIn 171 [some (.ref 668), some (.int v1), some (.int v2), some (.int v3), some (.int v4), some (.int v5), none] [] m K) ∧ ((mI m 677 (Int32.toNatClampNeg v4)) = 1 → ((¬ v5 = 0 → vp_in v4 6000 ∧ V m12_isIn 103 [some (.ref 668), some (.int v1), some (.int v2), some (.int v3), some (.int v4), some (.int v5), none] [(.int (mI m 680 (Int32.toNatClampNeg v4)))] m K) ∧ (v5 = 0 → vp_in v4 6000 ∧ V m12_isIn 103 [some (.ref 668), some (.int v1), some (.int v2), some (.int v3), some (.int v4), some (.int v5), none] [(.int (mI m 679 (Int32.toNatClampNeg v4)))] m K))))))) : V m12_isIn 64 [some (.ref 668), some (.int v1), some (.int v2), some (.int v3), some (.int v4), some (.int v5), none] [] m K := by
  refine r_iload (y := m12_isIn) dX12_isIn_64 rfl ?_
  refine r_iconst (y := m12_isIn) (v := 2) dX12_isIn_66 (by decide) ?_
  refine r_icmp_ge (y := m12_isIn) (tgt := 171) dX12_isIn_67 (by decide) (fun hc1 => ?_) (fun hc1 => ?_)
  · have h := h.1 hc1
    exact h
  · have h := h.2 hc1
    refine r_aload_n (y := m12_isIn) dX12_isIn_70 rfl rfl ?_
    refine g_X12_35 (y := m12_isIn) rfl dX12_isIn_71 hm ?_
    refine r_iload (y := m12_isIn) dX12_isIn_74 rfl ?_
    obtain ⟨hb2, h⟩ := h
    refine r_iald (y := m12_isIn) (n := 6000) dX12_isIn_76 (sa_677 hm) hb2 ?_
    refine r_iconst (y := m12_isIn) (v := 1) dX12_isIn_77 (by decide) ?_
    refine r_icmp_ne (y := m12_isIn) (tgt := 171) dX12_isIn_78 (by decide) (fun hc3 => ?_) (fun hc3 => ?_)
    · have h := h.1 hc3
      exact h
    · have h := h.2 hc3
      refine r_iload (y := m12_isIn) dX12_isIn_81 rfl ?_
      refine r_if_ne (y := m12_isIn) (tgt := 96) dX12_isIn_83 (by decide) (fun hc4 => ?_) (fun hc4 => ?_)
      · have h := h.1 hc4
        refine r_aload_n (y := m12_isIn) dX12_isIn_96 rfl rfl ?_
        refine g_X12_44 (y := m12_isIn) rfl dX12_isIn_97 hm ?_
        refine r_iload (y := m12_isIn) dX12_isIn_100 rfl ?_
        obtain ⟨hb5, h⟩ := h
        refine r_iald (y := m12_isIn) (n := 6000) dX12_isIn_102 (sa_680 hm) hb5 ?_
        exact h
      · have h := h.2 hc4
        refine r_aload_n (y := m12_isIn) dX12_isIn_86 rfl rfl ?_
        refine g_X12_41 (y := m12_isIn) rfl dX12_isIn_87 hm ?_
        refine r_iload (y := m12_isIn) dX12_isIn_90 rfl ?_
        obtain ⟨hb6, h⟩ := h
        refine r_iald (y := m12_isIn) (n := 6000) dX12_isIn_92 (sa_679 hm) hb6 ?_
        refine r_goto (y := m12_isIn) (tgt := 103) dX12_isIn_93 (by decide) ?_
        exact h
set_option maxHeartbeats 4000000 in
set_option maxRecDepth 100000 in
theorem u12_isIn_171 {m : Mm} {K : Option Value ⊕ String → Mm → Prop} (hm : St m) {v1 : Int32} {v2 : Int32} {v3 : Int32} {v4 : Int32} {v5 : Int32}  (h : V m12_isIn 38 [some (.ref 668), some (.int v1), some (.int v2), some (.int v3), some (.int v4), some (.int v5), none] [] m K) : V m12_isIn 171 [some (.ref 668), some (.int v1), some (.int v2), some (.int v3), some (.int v4), some (.int v5), none] [] m K := by
  refine r_goto (y := m12_isIn) (tgt := 38) dX12_isIn_171 (by decide) ?_
  exact h
set_option maxHeartbeats 4000000 in
set_option maxRecDepth 100000 in
theorem u12_isIn_103 {m : Mm} {K : Option Value ⊕ String → Mm → Prop} (hm : St m) {v1 : Int32} {v2 : Int32} {v3 : Int32} {v4 : Int32} {v5 : Int32} {s0 : Int32}  (h : ((¬ s0 = (-1) → C m12_root [(.ref 668), (.int s0)] m (fun o m2 => ∃ x4 : Int32, o = .inl (some (.int x4)) ∧ St m2 ∧ V m12_isIn 121 [some (.ref 668), some (.int v1), some (.int v2), some (.int v3), some (.int v4), some (.int v5), some (.int s0)] [(.int x4)] m2 K)) ∧ (s0 = (-1) → V m12_isIn 121 [some (.ref 668), some (.int v1), some (.int v2), some (.int v3), some (.int v4), some (.int v5), some (.int s0)] [(.int (-1))] m K))) : V m12_isIn 103 [some (.ref 668), some (.int v1), some (.int v2), some (.int v3), some (.int v4), some (.int v5), none] [(.int s0)] m K := by
  refine r_istore (y := m12_isIn) (L' := [some (.ref 668), some (.int v1), some (.int v2), some (.int v3), some (.int v4), some (.int v5), some (.int s0)]) dX12_isIn_103 (Nat.le_of_ble_eq_true rfl) rfl ?_
  refine r_iload (y := m12_isIn) dX12_isIn_105 rfl ?_
  refine r_iconst (y := m12_isIn) (v := (-1)) dX12_isIn_107 (by decide) ?_
  refine r_icmp_ne (y := m12_isIn) (tgt := 115) dX12_isIn_108 (by decide) (fun hc1 => ?_) (fun hc1 => ?_)
  · have h := h.1 hc1
    refine r_aload_n (y := m12_isIn) dX12_isIn_115 rfl rfl ?_
    refine r_iload (y := m12_isIn) dX12_isIn_116 rfl ?_
    refine r_callV (y := m12_isIn) (As := [(.int s0)]) (b := 668) (ci := 12) dX12_isIn_118 rfl k12_root lm_X12_280 rfl ⟨by decide, by decide⟩ (so_668 hm) (by decide) rfl (Nat.le_of_ble_eq_true rfl) (C.mono h ?_)
    rintro _ m2 ⟨x4, rfl, hm3, h⟩
    refine ⟨_, rfl, ?_⟩
    exact h
  · have h := h.2 hc1
    refine r_iconst (y := m12_isIn) (v := (-1)) dX12_isIn_111 (by decide) ?_
    refine r_goto (y := m12_isIn) (tgt := 121) dX12_isIn_112 (by decide) ?_
    exact h
set_option maxHeartbeats 4000000 in
set_option maxRecDepth 100000 in
theorem u12_isIn_121 {m : Mm} {K : Option Value ⊕ String → Mm → Prop} (hm : St m) {v1 : Int32} {v2 : Int32} {v3 : Int32} {v4 : Int32} {v5 : Int32} {v6 : Int32} {s0 : Int32}  (h : ((s0 = (-1) → V m12_isIn 165 [some (.ref 668), some (.int v1), some (.int v2), some (.int v3), some (.int v4), some (.int v5), some (.int s0)] [] m K) ∧ (¬ s0 = (-1) → vp_in s0 6000 ∧ (((mI m 701 (Int32.toNatClampNeg s0)) = (mI m 668 46) → V m12_isIn 165 [some (.ref 668), some (.int v1), some (.int v2), some (.int v3), some (.int v4), some (.int v5), some (.int s0)] [] m K) ∧ (¬ (mI m 701 (Int32.toNatClampNeg s0)) = (mI m 668 46) → vp_in s0 6000 ∧ vp_in v3 6000 ∧ V m12_isIn 165 [some (.ref 668), some (.int v1), some (.int v2), some (.int (v3 + 1)), some (.int v4), some (.int v5), some (.int s0)] [] (mSetI (mSetI m 701 (Int32.toNatClampNeg s0) (mI m 668 46)) 702 (Int32.toNatClampNeg v3) s0) K))))) : V m12_isIn 121 [some (.ref 668), some (.int v1), some (.int v2), some (.int v3), some (.int v4), some (.int v5), some (.int v6)] [(.int s0)] m K := by
  refine r_istore (y := m12_isIn) (L' := [some (.ref 668), some (.int v1), some (.int v2), some (.int v3), some (.int v4), some (.int v5), some (.int s0)]) dX12_isIn_121 (Nat.le_of_ble_eq_true rfl) rfl ?_
  refine r_iload (y := m12_isIn) dX12_isIn_123 rfl ?_
  refine r_iconst (y := m12_isIn) (v := (-1)) dX12_isIn_125 (by decide) ?_
  refine r_icmp_eq (y := m12_isIn) (tgt := 165) dX12_isIn_126 (by decide) (fun hc1 => ?_) (fun hc1 => ?_)
  · have h := h.1 hc1
    exact h
  · have h := h.2 hc1
    refine r_aload_n (y := m12_isIn) dX12_isIn_129 rfl rfl ?_
    refine g_X12_107 (y := m12_isIn) rfl dX12_isIn_130 hm ?_
    refine r_iload (y := m12_isIn) dX12_isIn_133 rfl ?_
    obtain ⟨hb2, h⟩ := h
    refine r_iald (y := m12_isIn) (n := 6000) dX12_isIn_135 (sa_701 hm) hb2 ?_
    refine r_aload_n (y := m12_isIn) dX12_isIn_136 rfl rfl ?_
    refine g_X12_299 (y := m12_isIn) rfl dX12_isIn_137 hm ?_
    refine r_icmp_eq (y := m12_isIn) (tgt := 165) dX12_isIn_140 (by decide) (fun hc3 => ?_) (fun hc3 => ?_)
    · have h := h.1 hc3
      exact h
    · have h := h.2 hc3
      refine r_aload_n (y := m12_isIn) dX12_isIn_143 rfl rfl ?_
      refine g_X12_107 (y := m12_isIn) rfl dX12_isIn_144 hm ?_
      refine r_iload (y := m12_isIn) dX12_isIn_147 rfl ?_
      refine r_aload_n (y := m12_isIn) dX12_isIn_149 rfl rfl ?_
      refine g_X12_299 (y := m12_isIn) rfl dX12_isIn_150 hm ?_
      obtain ⟨hb4, h⟩ := h
      refine r_iast (y := m12_isIn) (n := 6000) dX12_isIn_153 (sa_701 hm) hb4 ?_
      refine r_aload_n (y := m12_isIn) dX12_isIn_154 rfl rfl ?_
      refine g_X12_110 (y := m12_isIn) rfl dX12_isIn_155 (St.i hm) ?_
      refine r_iload_n (y := m12_isIn) dX12_isIn_158 rfl rfl ?_
      refine r_iload (y := m12_isIn) dX12_isIn_159 rfl ?_
      obtain ⟨hb5, h⟩ := h
      refine r_iast (y := m12_isIn) (n := 6000) dX12_isIn_161 (sa_702 (St.i hm)) hb5 ?_
      refine r_iinc (y := m12_isIn) (v := (v3 + 1)) (L' := [some (.ref 668), some (.int v1), some (.int v2), some (.int (v3 + 1)), some (.int v4), some (.int v5), some (.int s0)]) dX12_isIn_162 rfl (by rfl) rfl ?_
      exact h
set_option maxHeartbeats 4000000 in
set_option maxRecDepth 100000 in
theorem u12_isIn_165 {m : Mm} {K : Option Value ⊕ String → Mm → Prop} (hm : St m) {v1 : Int32} {v2 : Int32} {v3 : Int32} {v4 : Int32} {v5 : Int32} {v6 : Int32}  (h : V m12_isIn 64 [some (.ref 668), some (.int v1), some (.int v2), some (.int v3), some (.int v4), some (.int (v5 + 1)), some (.int v6)] [] m K) : V m12_isIn 165 [some (.ref 668), some (.int v1), some (.int v2), some (.int v3), some (.int v4), some (.int v5), some (.int v6)] [] m K := by
  refine r_iinc (y := m12_isIn) (v := (v5 + 1)) (L' := [some (.ref 668), some (.int v1), some (.int v2), some (.int v3), some (.int v4), some (.int (v5 + 1)), some (.int v6)]) dX12_isIn_165 rfl (by rfl) rfl ?_
  refine r_goto (y := m12_isIn) (tgt := 64) dX12_isIn_168 (by decide) ?_
  exact h
set_option maxHeartbeats 4000000 in
set_option maxRecDepth 100000 in
theorem u12_search {m : Mm} {K : Option Value ⊕ String → Mm → Prop} (hm : St m) {a0 : Int32} {a1 : Int32}  (h : C m12_in [(.int a0), (.int 0), (.int 2)] m (fun o m1 => ∃ x3 : Int32, o = .inl (some (.int x3)) ∧ St m1 ∧ ((¬ x3 = 0 → ((¬ (mI m1 668 11) = 0 → V m12_search 26 [some (.ref 668), some (.int a0), some (.int a1), none, none, none] [(.int 0), (.ref 668)] m1 K) ∧ ((mI m1 668 11) = 0 → V m12_search 26 [some (.ref 668), some (.int a0), some (.int a1), none, none, none] [(.int 2), (.ref 668)] m1 K))) ∧ (x3 = 0 → V m12_search 26 [some (.ref 668), some (.int a0), some (.int a1), none, none, none] [(.int 1), (.ref 668)] m1 K)))) : V m12_search 0 [some (.ref 668), some (.int a0), some (.int a1), none, none, none] [] m K := by
  refine r_aload_n (y := m12_search) dX12_search_0 rfl rfl ?_
  refine r_iload_n (y := m12_search) dX12_search_1 rfl rfl ?_
  refine r_iconst (y := m12_search) (v := 0) dX12_search_2 (by decide) ?_
  refine r_iconst (y := m12_search) (v := 2) dX12_search_3 (by decide) ?_
  refine r_callS (y := m12_search) (As := [(.int a0), (.int 0), (.int 2)]) dX12_search_4 rfl k12_in lm_X12_154 rfl ⟨by decide, by decide⟩ (Nat.le_of_ble_eq_true rfl) (C.mono h ?_)
  rintro _ m1 ⟨x3, rfl, hm2, h⟩
  refine ⟨_, rfl, ?_⟩
  refine r_if_ne (y := m12_search) (tgt := 14) dX12_search_7 (by decide) (fun hc4 => ?_) (fun hc4 => ?_)
  · have h := h.1 hc4
    refine r_aload_n (y := m12_search) dX12_search_14 rfl rfl ?_
    refine g_X12_220 (y := m12_search) rfl dX12_search_15 hm2 ?_
    refine r_if_ne (y := m12_search) (tgt := 25) dX12_search_18 (by decide) (fun hc5 => ?_) (fun hc5 => ?_)
    · have h := h.1 hc5
      refine r_iconst (y := m12_search) (v := 0) dX12_search_25 (by decide) ?_
      exact h
    · have h := h.2 hc5
      refine r_iconst (y := m12_search) (v := 2) dX12_search_21 (by decide) ?_
      refine r_goto (y := m12_search) (tgt := 26) dX12_search_22 (by decide) ?_
      exact h
  · have h := h.2 hc4
    refine r_iconst (y := m12_search) (v := 1) dX12_search_10 (by decide) ?_
    refine r_goto (y := m12_search) (tgt := 26) dX12_search_11 (by decide) ?_
    exact h
set_option maxHeartbeats 4000000 in
set_option maxRecDepth 100000 in
theorem u12_search_26 {m : Mm} {K : Option Value ⊕ String → Mm → Prop} (hm : St m) {v1 : Int32} {v2 : Int32} {s1 : Int32}  (h : ((s1 ≤ 0 → V m12_search 40 [some (.ref 668), some (.int v1), some (.int v2), some (.int 0), none, none] [] (mSetI m 668 12 s1) K) ∧ (¬ s1 ≤ 0 → K (.inl (some (.int 0))) (mSetI m 668 12 s1)))) : V m12_search 26 [some (.ref 668), some (.int v1), some (.int v2), none, none, none] [(.int s1), (.ref 668)] m K := by
  refine p_X12_147 (y := m12_search) rfl dX12_search_26 hm ?_
  refine r_aload_n (y := m12_search) dX12_search_29 rfl rfl ?_
  refine g_X12_147 (y := m12_search) rfl dX12_search_30 (St.i hm) ?_
  refine V.top (b := s1) (by first | rfl | simp [mI_set, mI_setR]) ?_
  refine r_if_le (y := m12_search) (tgt := 38) dX12_search_33 (by decide) (fun hc1 => ?_) (fun hc1 => ?_)
  · have h := h.1 hc1
    refine r_iconst (y := m12_search) (v := 0) dX12_search_38 (by decide) ?_
    refine r_istore_n (y := m12_search) (L' := [some (.ref 668), some (.int v1), some (.int v2), some (.int 0), none, none]) dX12_search_39 rfl (Nat.le_of_ble_eq_true rfl) rfl ?_
    exact h
  · have h := h.2 hc1
    refine r_iconst (y := m12_search) (v := 0) dX12_search_36 (by decide) ?_
    exact r_iret (y := m12_search) dX12_search_37 rfl rfl h
set_option maxHeartbeats 4000000 in
set_option maxRecDepth 100000 in
theorem u12_search_40 {m : Mm} {K : Option Value ⊕ String → Mm → Prop} (hm : St m) {v1 : Int32} {v2 : Int32} {v3 : Int32}  (h : ((6 ≤ v3 → vp_in 0 110 ∧ C m12_lays [(.ref 668), (.int (-1))] (mSetI (mSetI (mSetI (mSetI m 668 50 0) 668 57 0) 668 58 0) 693 0 0) (fun o m3 => o = .inl none ∧ St m3 ∧ V m12_search 88 [some (.ref 668), some (.int v1), some (.int v2), some (.int v2), none, none] [] m3 K)) ∧ (¬ 6 ≤ v3 → vp_in v3 6 ∧ V m12_search 40 [some (.ref 668), some (.int v1), some (.int v2), some (.int (v3 + 1)), none, none] [] (mSetI m 708 (Int32.toNatClampNeg v3) 0) K))) : V m12_search 40 [some (.ref 668), some (.int v1), some (.int v2), some (.int v3), none, none] [] m K := by
  refine r_iload_n (y := m12_search) dX12_search_40 rfl rfl ?_
  refine r_bipush (y := m12_search) (v := 6) dX12_search_41 (by decide) ?_
  refine r_icmp_ge (y := m12_search) (tgt := 59) dX12_search_43 (by decide) (fun hc1 => ?_) (fun hc1 => ?_)
  · have h := h.1 hc1
    refine r_aload_n (y := m12_search) dX12_search_59 rfl rfl ?_
    refine r_iconst (y := m12_search) (v := 0) dX12_search_60 (by decide) ?_
    refine p_X12_224 (y := m12_search) rfl dX12_search_61 hm ?_
    refine r_aload_n (y := m12_search) dX12_search_64 rfl rfl ?_
    refine r_iconst (y := m12_search) (v := 0) dX12_search_65 (by decide) ?_
    refine p_X12_347 (y := m12_search) rfl dX12_search_66 (St.i hm) ?_
    refine r_aload_n (y := m12_search) dX12_search_69 rfl rfl ?_
    refine r_iconst (y := m12_search) (v := 0) dX12_search_70 (by decide) ?_
    refine p_X12_344 (y := m12_search) rfl dX12_search_71 (St.i (St.i hm)) ?_
    refine r_aload_n (y := m12_search) dX12_search_74 rfl rfl ?_
    refine g_X12_83 (y := m12_search) rfl dX12_search_75 (St.i (St.i (St.i hm))) ?_
    refine r_iconst (y := m12_search) (v := 0) dX12_search_78 (by decide) ?_
    refine r_iconst (y := m12_search) (v := 0) dX12_search_79 (by decide) ?_
    obtain ⟨hb2, h⟩ := h
    refine r_iast (y := m12_search) (n := 110) dX12_search_80 (sa_693 (St.i (St.i (St.i hm)))) hb2 ?_
    refine r_aload_n (y := m12_search) dX12_search_81 rfl rfl ?_
    refine r_iconst (y := m12_search) (v := (-1)) dX12_search_82 (by decide) ?_
    refine r_callV (y := m12_search) (As := [(.int (-1))]) (b := 668) (ci := 12) dX12_search_83 rfl k12_lays lm_X12_350 rfl ⟨by decide, by decide⟩ (so_668 (St.i (St.i (St.i (St.i hm))))) (by decide) rfl (Nat.le_of_ble_eq_true rfl) (C.mono h ?_)
    rintro _ m3 ⟨rfl, hm4, h⟩
    refine ⟨none, rfl, ?_⟩
    refine r_iload_n (y := m12_search) dX12_search_86 rfl rfl ?_
    refine r_istore_n (y := m12_search) (L' := [some (.ref 668), some (.int v1), some (.int v2), some (.int v2), none, none]) dX12_search_87 rfl (Nat.le_of_ble_eq_true rfl) rfl ?_
    exact h
  · have h := h.2 hc1
    refine r_aload_n (y := m12_search) dX12_search_46 rfl rfl ?_
    refine g_X12_128 (y := m12_search) rfl dX12_search_47 hm ?_
    refine r_iload_n (y := m12_search) dX12_search_50 rfl rfl ?_
    refine r_iconst (y := m12_search) (v := 0) dX12_search_51 (by decide) ?_
    obtain ⟨hb5, h⟩ := h
    refine r_iast (y := m12_search) (n := 6) dX12_search_52 (sa_708 hm) hb5 ?_
    refine r_iinc (y := m12_search) (v := (v3 + 1)) (L' := [some (.ref 668), some (.int v1), some (.int v2), some (.int (v3 + 1)), none, none]) dX12_search_53 rfl (by rfl) rfl ?_
    refine r_goto (y := m12_search) (tgt := 40) dX12_search_56 (by decide) ?_
    exact h
set_option maxHeartbeats 4000000 in
set_option maxRecDepth 100000 in
theorem u12_search_88 {m : Mm} {K : Option Value ⊕ String → Mm → Prop} (hm : St m) {v1 : Int32} {v2 : Int32} {v3 : Int32}  (h : (((mI m 668 57) ≤ 0 → V m12_search 260 [some (.ref 668), some (.int v1), some (.int v2), some (.int v3), none, none] [] m K) ∧ (¬ (mI m 668 57) ≤ 0 → vp_in 4 6 ∧ ((200 ≤ (mI m 708 4) → V m12_search 260 [some (.ref 668), some (.int v1), some (.int v2), some (.int v3), none, none] [] m K) ∧ (¬ 200 ≤ (mI m 708 4) → ¬ (mI m 668 57) = 0 ∧ ((¬ v1 = 0 → ((¬ v1 = 1 → V m12_search 153 [some (.ref 668), some (.int v1), some (.int v2), some (.int ((v3 * 1103515245) + 12345)), some (.int ((((((v3 * 1103515245) + 12345)).toUInt32 >>> (Int32.toUInt32 (16) &&& Int32.toUInt32 31)).toInt32) - (((((v3 * 1103515245) + 12345)).toUInt32 >>> (Int32.toUInt32 (16) &&& Int32.toUInt32 31)).toInt32) / (mI m 668 57) * (mI m 668 57))), none] [(.int ((((((v3 * 1103515245) + 12345)).toUInt32 >>> (Int32.toUInt32 (16) &&& Int32.toUInt32 31)).toInt32) - (((((v3 * 1103515245) + 12345)).toUInt32 >>> (Int32.toUInt32 (16) &&& Int32.toUInt32 31)).toInt32) / (mI m 668 57) * (mI m 668 57))), (.ref 668)] m K) ∧ (v1 = 1 → V m12_search 153 [some (.ref 668), some (.int v1), some (.int v2), some (.int ((v3 * 1103515245) + 12345)), some (.int ((((((v3 * 1103515245) + 12345)).toUInt32 >>> (Int32.toUInt32 (16) &&& Int32.toUInt32 31)).toInt32) - (((((v3 * 1103515245) + 12345)).toUInt32 >>> (Int32.toUInt32 (16) &&& Int32.toUInt32 31)).toInt32) / (mI m 668 57) * (mI m 668 57))), none] [(.int 0), (.ref 668)] m K))) ∧ (v1 = 0 → V m12_search 153 [some (.ref 668), some (.int v1), some (.int v2), some (.int ((v3 * 1103515245) + 12345)), some (.int ((((((v3 * 1103515245) + 12345)).toUInt32 >>> (Int32.toUInt32 (16) &&& Int32.toUInt32 31)).toInt32) - (((((v3 * 1103515245) + 12345)).toUInt32 >>> (Int32.toUInt32 (16) &&& Int32.toUInt32 31)).toInt32) / (mI m 668 57) * (mI m 668 57))), none] [(.int ((mI m 668 57) - 1)), (.ref 668)] m K))))))) : V m12_search 88 [some (.ref 668), some (.int v1), some (.int v2), some (.int v3), none, none] [] m K := by
  refine r_aload_n (y := m12_search) dX12_search_88 rfl rfl ?_
  refine g_X12_347 (y := m12_search) rfl dX12_search_89 hm ?_
  refine r_if_le (y := m12_search) (tgt := 260) dX12_search_92 (by decide) (fun hc1 => ?_) (fun hc1 => ?_)
  · have h := h.1 hc1
    exact h
  · have h := h.2 hc1
    refine r_aload_n (y := m12_search) dX12_search_95 rfl rfl ?_
    refine g_X12_128 (y := m12_search) rfl dX12_search_96 hm ?_
    refine r_iconst (y := m12_search) (v := 4) dX12_search_99 (by decide) ?_
    obtain ⟨hb2, h⟩ := h
    refine r_iald (y := m12_search) (n := 6) dX12_search_100 (sa_708 hm) hb2 ?_
    refine r_sipush (y := m12_search) (v := 200) dX12_search_101 (by decide) ?_
    refine r_icmp_ge (y := m12_search) (tgt := 260) dX12_search_104 (by decide) (fun hc3 => ?_) (fun hc3 => ?_)
    · have h := h.1 hc3
      exact h
    · have h := h.2 hc3
      refine r_iload_n (y := m12_search) dX12_search_107 rfl rfl ?_
      refine r_ldcw (y := m12_search) (v := 1103515245) dX12_search_108 (by decide +kernel) ?_
      refine r_imul (y := m12_search) dX12_search_111 ?_
      refine r_sipush (y := m12_search) (v := 12345) dX12_search_112 (by decide) ?_
      refine r_iadd (y := m12_search) dX12_search_115 ?_
      refine r_istore_n (y := m12_search) (L' := [some (.ref 668), some (.int v1), some (.int v2), some (.int ((v3 * 1103515245) + 12345)), none, none]) dX12_search_116 rfl (Nat.le_of_ble_eq_true rfl) rfl ?_
      refine r_iload_n (y := m12_search) dX12_search_117 rfl rfl ?_
      refine r_bipush (y := m12_search) (v := 16) dX12_search_118 (by decide) ?_
      refine r_iushr (y := m12_search) (v := (((((v3 * 1103515245) + 12345)).toUInt32 >>> (Int32.toUInt32 (16) &&& Int32.toUInt32 31)).toInt32)) dX12_search_120 rfl ?_
      refine r_aload_n (y := m12_search) dX12_search_121 rfl rfl ?_
      refine g_X12_347 (y := m12_search) rfl dX12_search_122 hm ?_
      obtain ⟨h0, h⟩ := h
      refine r_irem (y := m12_search) dX12_search_125 h0 ?_
      refine r_istore (y := m12_search) (L' := [some (.ref 668), some (.int v1), some (.int v2), some (.int ((v3 * 1103515245) + 12345)), some (.int ((((((v3 * 1103515245) + 12345)).toUInt32 >>> (Int32.toUInt32 (16) &&& Int32.toUInt32 31)).toInt32) - (((((v3 * 1103515245) + 12345)).toUInt32 >>> (Int32.toUInt32 (16) &&& Int32.toUInt32 31)).toInt32) / (mI m 668 57) * (mI m 668 57))), none]) dX12_search_126 (Nat.le_of_ble_eq_true rfl) rfl ?_
      refine r_aload_n (y := m12_search) dX12_search_128 rfl rfl ?_
      refine r_iload_n (y := m12_search) dX12_search_129 rfl rfl ?_
      refine r_if_ne (y := m12_search) (tgt := 142) dX12_search_130 (by decide) (fun hc4 => ?_) (fun hc4 => ?_)
      · have h := h.1 hc4
        refine r_iload_n (y := m12_search) dX12_search_142 rfl rfl ?_
        refine r_iconst (y := m12_search) (v := 1) dX12_search_143 (by decide) ?_
        refine r_icmp_ne (y := m12_search) (tgt := 151) dX12_search_144 (by decide) (fun hc5 => ?_) (fun hc5 => ?_)
        · have h := h.1 hc5
          refine r_iload (y := m12_search) dX12_search_151 rfl ?_
          exact h
        · have h := h.2 hc5
          refine r_iconst (y := m12_search) (v := 0) dX12_search_147 (by decide) ?_
          refine r_goto (y := m12_search) (tgt := 153) dX12_search_148 (by decide) ?_
          exact h
      · have h := h.2 hc4
        refine r_aload_n (y := m12_search) dX12_search_133 rfl rfl ?_
        refine g_X12_347 (y := m12_search) rfl dX12_search_134 hm ?_
        refine r_iconst (y := m12_search) (v := 1) dX12_search_137 (by decide) ?_
        refine r_isub (y := m12_search) dX12_search_138 ?_
        refine r_goto (y := m12_search) (tgt := 153) dX12_search_139 (by decide) ?_
        exact h
set_option maxHeartbeats 4000000 in
set_option maxRecDepth 100000 in
theorem u12_search_260 {m : Mm} {K : Option Value ⊕ String → Mm → Prop} (hm : St m) {v1 : Int32} {v2 : Int32} {v3 : Int32}  (h : ((¬ (mI m 668 57) = 0 → V m12_search 277 [some (.ref 668), some (.int v1), some (.int v2), some (.int v3), none, none] [(.int 0), (.int 5), (.ref 708)] m K) ∧ ((mI m 668 57) = 0 → V m12_search 277 [some (.ref 668), some (.int v1), some (.int v2), some (.int v3), none, none] [(.int 1), (.int 5), (.ref 708)] m K))) : V m12_search 260 [some (.ref 668), some (.int v1), some (.int v2), some (.int v3), none, none] [] m K := by
  refine r_aload_n (y := m12_search) dX12_search_260 rfl rfl ?_
  refine g_X12_128 (y := m12_search) rfl dX12_search_261 hm ?_
  refine r_iconst (y := m12_search) (v := 5) dX12_search_264 (by decide) ?_
  refine r_aload_n (y := m12_search) dX12_search_265 rfl rfl ?_
  refine g_X12_347 (y := m12_search) rfl dX12_search_266 hm ?_
  refine r_if_ne (y := m12_search) (tgt := 276) dX12_search_269 (by decide) (fun hc1 => ?_) (fun hc1 => ?_)
  · have h := h.1 hc1
    refine r_iconst (y := m12_search) (v := 0) dX12_search_276 (by decide) ?_
    exact h
  · have h := h.2 hc1
    refine r_iconst (y := m12_search) (v := 1) dX12_search_272 (by decide) ?_
    refine r_goto (y := m12_search) (tgt := 277) dX12_search_273 (by decide) ?_
    exact h
set_option maxHeartbeats 4000000 in
set_option maxRecDepth 100000 in
theorem u12_search_153 {m : Mm} {K : Option Value ⊕ String → Mm → Prop} (hm : St m) {v1 : Int32} {v2 : Int32} {v3 : Int32} {v4 : Int32} {s1 : Int32}  (h : C m12_takes [(.ref 668), (.int s1)] m (fun o m1 => o = .inl none ∧ St m1 ∧ C m12_run [(.ref 668)] m1 (fun o m3 => o = .inl none ∧ St m3 ∧ vp_in 4 6 ∧ vp_in 4 6 ∧ ((¬ (mI m3 668 29) = 5 → vp_in ((mI m3 668 29) - 1) 6 ∧ vp_in ((mI m3 668 29) - 1) 6 ∧ ((¬ (mI m3 668 29) = 1 → V m12_search 257 [some (.ref 668), some (.int v1), some (.int v2), some (.int v3), some (.int v4), none] [] (mSetI (mSetI m3 708 4 ((mI m3 708 4) + 1)) 708 (Int32.toNatClampNeg ((mI m3 668 29) - 1)) ((mI (mSetI m3 708 4 ((mI m3 708 4) + 1)) 708 (Int32.toNatClampNeg ((mI m3 668 29) - 1))) + 1)) K) ∧ ((mI m3 668 29) = 1 → ((10 ≤ (mI m3 668 50) → V m12_search 257 [some (.ref 668), some (.int v1), some (.int v2), some (.int v3), some (.int v4), none] [] (mSetI (mSetI m3 708 4 ((mI m3 708 4) + 1)) 708 (Int32.toNatClampNeg ((mI m3 668 29) - 1)) ((mI (mSetI m3 708 4 ((mI m3 708 4) + 1)) 708 (Int32.toNatClampNeg ((mI m3 668 29) - 1))) + 1)) K) ∧ (¬ 10 ≤ (mI m3 668 50) → C m12_keepValue [(.ref 668)] (mSetI (mSetI m3 708 4 ((mI m3 708 4) + 1)) 708 (Int32.toNatClampNeg ((mI m3 668 29) - 1)) ((mI (mSetI m3 708 4 ((mI m3 708 4) + 1)) 708 (Int32.toNatClampNeg ((mI m3 668 29) - 1))) + 1)) (fun o m12 => o = .inl none ∧ St m12 ∧ V m12_search 257 [some (.ref 668), some (.int v1), some (.int v2), some (.int v3), some (.int v4), none] [] m12 K)))))) ∧ ((mI m3 668 29) = 5 → V m12_search 181 [some (.ref 668), some (.int v1), some (.int v2), some (.int v3), some (.int v4), some (.int 0)] [] (mSetI m3 708 4 ((mI m3 708 4) + 1)) K))))) : V m12_search 153 [some (.ref 668), some (.int v1), some (.int v2), some (.int v3), some (.int v4), none] [(.int s1), (.ref 668)] m K := by
  refine r_callV (y := m12_search) (As := [(.int s1)]) (b := 668) (ci := 12) dX12_search_153 rfl k12_takes lm_X12_354 rfl ⟨by decide, by decide⟩ (so_668 hm) (by decide) rfl (Nat.le_of_ble_eq_true rfl) (C.mono h ?_)
  rintro _ m1 ⟨rfl, hm2, h⟩
  refine ⟨none, rfl, ?_⟩
  refine r_aload_n (y := m12_search) dX12_search_156 rfl rfl ?_
  refine r_callV (y := m12_search) (As := []) (b := 668) (ci := 12) dX12_search_157 rfl k12_run lm_X12_357 rfl ⟨by decide, by decide⟩ (so_668 hm2) (by decide) rfl (Nat.le_of_ble_eq_true rfl) (C.mono h ?_)
  rintro _ m3 ⟨rfl, hm4, h⟩
  refine ⟨none, rfl, ?_⟩
  refine r_aload_n (y := m12_search) dX12_search_160 rfl rfl ?_
  refine g_X12_128 (y := m12_search) rfl dX12_search_161 hm4 ?_
  refine r_iconst (y := m12_search) (v := 4) dX12_search_164 (by decide) ?_
  refine r_dup2 (y := m12_search) dX12_search_165 ?_
  obtain ⟨hb5, h⟩ := h
  refine r_iald (y := m12_search) (n := 6) dX12_search_166 (sa_708 hm4) hb5 ?_
  refine r_iconst (y := m12_search) (v := 1) dX12_search_167 (by decide) ?_
  refine r_iadd (y := m12_search) dX12_search_168 ?_
  obtain ⟨hb6, h⟩ := h
  refine r_iast (y := m12_search) (n := 6) dX12_search_169 (sa_708 hm4) hb6 ?_
  refine r_aload_n (y := m12_search) dX12_search_170 rfl rfl ?_
  refine g_X12_245 (y := m12_search) rfl dX12_search_171 (St.i hm4) ?_
  refine V.top (b := (mI m3 668 29)) (by first | rfl | simp [mI_set, mI_setR]) ?_
  refine r_iconst (y := m12_search) (v := 5) dX12_search_174 (by decide) ?_
  refine r_icmp_ne (y := m12_search) (tgt := 221) dX12_search_175 (by decide) (fun hc7 => ?_) (fun hc7 => ?_)
  · have h := h.1 hc7
    refine r_aload_n (y := m12_search) dX12_search_221 rfl rfl ?_
    refine g_X12_128 (y := m12_search) rfl dX12_search_222 (St.i hm4) ?_
    refine r_aload_n (y := m12_search) dX12_search_225 rfl rfl ?_
    refine g_X12_245 (y := m12_search) rfl dX12_search_226 (St.i hm4) ?_
    refine V.top (b := (mI m3 668 29)) (by first | rfl | simp [mI_set, mI_setR]) ?_
    refine r_iconst (y := m12_search) (v := 1) dX12_search_229 (by decide) ?_
    refine r_isub (y := m12_search) dX12_search_230 ?_
    refine r_dup2 (y := m12_search) dX12_search_231 ?_
    obtain ⟨hb8, h⟩ := h
    refine r_iald (y := m12_search) (n := 6) dX12_search_232 (sa_708 (St.i hm4)) hb8 ?_
    refine r_iconst (y := m12_search) (v := 1) dX12_search_233 (by decide) ?_
    refine r_iadd (y := m12_search) dX12_search_234 ?_
    obtain ⟨hb9, h⟩ := h
    refine r_iast (y := m12_search) (n := 6) dX12_search_235 (sa_708 (St.i hm4)) hb9 ?_
    refine r_aload_n (y := m12_search) dX12_search_236 rfl rfl ?_
    refine g_X12_245 (y := m12_search) rfl dX12_search_237 (St.i (St.i hm4)) ?_
    refine V.top (b := (mI m3 668 29)) (by first | rfl | simp [mI_set, mI_setR]) ?_
    refine r_iconst (y := m12_search) (v := 1) dX12_search_240 (by decide) ?_
    refine r_icmp_ne (y := m12_search) (tgt := 257) dX12_search_241 (by decide) (fun hc10 => ?_) (fun hc10 => ?_)
    · have h := h.1 hc10
      exact h
    · have h := h.2 hc10
      refine r_aload_n (y := m12_search) dX12_search_244 rfl rfl ?_
      refine g_X12_224 (y := m12_search) rfl dX12_search_245 (St.i (St.i hm4)) ?_
      refine V.top (b := (mI m3 668 50)) (by first | rfl | simp [mI_set, mI_setR]) ?_
      refine r_bipush (y := m12_search) (v := 10) dX12_search_248 (by decide) ?_
      refine r_icmp_ge (y := m12_search) (tgt := 257) dX12_search_250 (by decide) (fun hc11 => ?_) (fun hc11 => ?_)
      · have h := h.1 hc11
        exact h
      · have h := h.2 hc11
        refine r_aload_n (y := m12_search) dX12_search_253 rfl rfl ?_
        refine r_callV (y := m12_search) (As := []) (b := 668) (ci := 12) dX12_search_254 rfl k12_keepValue lm_X12_360 rfl ⟨by decide, by decide⟩ (so_668 (St.i (St.i hm4))) (by decide) rfl (Nat.le_of_ble_eq_true rfl) (C.mono h ?_)
        rintro _ m12 ⟨rfl, hm13, h⟩
        refine ⟨none, rfl, ?_⟩
        exact h
  · have h := h.2 hc7
    refine r_iconst (y := m12_search) (v := 0) dX12_search_178 (by decide) ?_
    refine r_istore (y := m12_search) (L' := [some (.ref 668), some (.int v1), some (.int v2), some (.int v3), some (.int v4), some (.int 0)]) dX12_search_179 (Nat.le_of_ble_eq_true rfl) rfl ?_
    exact h
set_option maxHeartbeats 4000000 in
set_option maxRecDepth 100000 in
theorem u12_search_277 {m : Mm} {K : Option Value ⊕ String → Mm → Prop} (hm : St m) {v1 : Int32} {v2 : Int32} {v3 : Int32} {s1 : Int32} {s2 : Int32}  (h : vp_in s1 6 ∧ vp_in 0 6 ∧ K (.inl (some (.int (mI (mSetI m 708 (Int32.toNatClampNeg s1) s2) 708 0)))) (mSetI m 708 (Int32.toNatClampNeg s1) s2)) : V m12_search 277 [some (.ref 668), some (.int v1), some (.int v2), some (.int v3), none, none] [(.int s2), (.int s1), (.ref 708)] m K := by
  obtain ⟨hb1, h⟩ := h
  refine r_iast (y := m12_search) (n := 6) dX12_search_277 (sa_708 hm) hb1 ?_
  refine r_aload_n (y := m12_search) dX12_search_278 rfl rfl ?_
  refine g_X12_128 (y := m12_search) rfl dX12_search_279 (St.i hm) ?_
  refine r_iconst (y := m12_search) (v := 0) dX12_search_282 (by decide) ?_
  obtain ⟨hb2, h⟩ := h
  refine r_iald (y := m12_search) (n := 6) dX12_search_283 (sa_708 (St.i hm)) hb2 ?_
  exact r_iret (y := m12_search) dX12_search_284 rfl rfl h
set_option maxHeartbeats 4000000 in
set_option maxRecDepth 100000 in
theorem u12_search_257 {m : Mm} {K : Option Value ⊕ String → Mm → Prop} (hm : St m) {v1 : Int32} {v2 : Int32} {v3 : Int32} {v4 : Int32}  (h : V m12_search 88 [some (.ref 668), some (.int v1), some (.int v2), some (.int v3), some (.int v4), none] [] m K) : V m12_search 257 [some (.ref 668), some (.int v1), some (.int v2), some (.int v3), some (.int v4), none] [] m K := by
  refine r_goto (y := m12_search) (tgt := 88) dX12_search_257 (by decide) ?_
  exact h
set_option maxHeartbeats 4000000 in
set_option maxRecDepth 100000 in
theorem u12_search_181 {m : Mm} {K : Option Value ⊕ String → Mm → Prop} (hm : St m) {v1 : Int32} {v2 : Int32} {v3 : Int32} {v4 : Int32} {v5 : Int32}  (h : (((mI m 668 39) ≤ v5 → V m12_search 257 [some (.ref 668), some (.int v1), some (.int v2), some (.int v3), some (.int v4), some (.int v5)] [] m K) ∧ (¬ (mI m 668 39) ≤ v5 → ((¬ v1 = 0 → V m12_search 209 [some (.ref 668), some (.int v1), some (.int v2), some (.int v3), some (.int v4), some (.int v5)] [(.int v5), (.ref 668)] m K) ∧ (v1 = 0 → V m12_search 209 [some (.ref 668), some (.int v1), some (.int v2), some (.int v3), some (.int v4), some (.int v5)] [(.int (((mI m 668 39) - 1) - v5)), (.ref 668)] m K))))) : V m12_search 181 [some (.ref 668), some (.int v1), some (.int v2), some (.int v3), some (.int v4), some (.int v5)] [] m K := by
  refine r_iload (y := m12_search) dX12_search_181 rfl ?_
  refine r_aload_n (y := m12_search) dX12_search_183 rfl rfl ?_
  refine g_X12_248 (y := m12_search) rfl dX12_search_184 hm ?_
  refine r_icmp_ge (y := m12_search) (tgt := 218) dX12_search_187 (by decide) (fun hc1 => ?_) (fun hc1 => ?_)
  · have h := h.1 hc1
    refine r_goto (y := m12_search) (tgt := 257) dX12_search_218 (by decide) ?_
    exact h
  · have h := h.2 hc1
    refine r_aload_n (y := m12_search) dX12_search_190 rfl rfl ?_
    refine r_iload_n (y := m12_search) dX12_search_191 rfl rfl ?_
    refine r_if_ne (y := m12_search) (tgt := 207) dX12_search_192 (by decide) (fun hc2 => ?_) (fun hc2 => ?_)
    · have h := h.1 hc2
      refine r_iload (y := m12_search) dX12_search_207 rfl ?_
      exact h
    · have h := h.2 hc2
      refine r_aload_n (y := m12_search) dX12_search_195 rfl rfl ?_
      refine g_X12_248 (y := m12_search) rfl dX12_search_196 hm ?_
      refine r_iconst (y := m12_search) (v := 1) dX12_search_199 (by decide) ?_
      refine r_isub (y := m12_search) dX12_search_200 ?_
      refine r_iload (y := m12_search) dX12_search_201 rfl ?_
      refine r_isub (y := m12_search) dX12_search_203 ?_
      refine r_goto (y := m12_search) (tgt := 209) dX12_search_204 (by decide) ?_
      exact h
set_option maxHeartbeats 4000000 in
set_option maxRecDepth 100000 in
theorem u12_search_209 {m : Mm} {K : Option Value ⊕ String → Mm → Prop} (hm : St m) {v1 : Int32} {v2 : Int32} {v3 : Int32} {v4 : Int32} {v5 : Int32} {s1 : Int32}  (h : C m12_lays [(.ref 668), (.int s1)] m (fun o m1 => o = .inl none ∧ St m1 ∧ V m12_search 181 [some (.ref 668), some (.int v1), some (.int v2), some (.int v3), some (.int v4), some (.int (v5 + 1))] [] m1 K)) : V m12_search 209 [some (.ref 668), some (.int v1), some (.int v2), some (.int v3), some (.int v4), some (.int v5)] [(.int s1), (.ref 668)] m K := by
  refine r_callV (y := m12_search) (As := [(.int s1)]) (b := 668) (ci := 12) dX12_search_209 rfl k12_lays lm_X12_350 rfl ⟨by decide, by decide⟩ (so_668 hm) (by decide) rfl (Nat.le_of_ble_eq_true rfl) (C.mono h ?_)
  rintro _ m1 ⟨rfl, hm2, h⟩
  refine ⟨none, rfl, ?_⟩
  refine r_iinc (y := m12_search) (v := (v5 + 1)) (L' := [some (.ref 668), some (.int v1), some (.int v2), some (.int v3), some (.int v4), some (.int (v5 + 1))]) dX12_search_212 rfl (by rfl) rfl ?_
  refine r_goto (y := m12_search) (tgt := 181) dX12_search_215 (by decide) ?_
  exact h
set_option maxHeartbeats 4000000 in
set_option maxRecDepth 100000 in
theorem u12_within {m : Mm} {K : Option Value ⊕ String → Mm → Prop} (hm : St m) {a0 : Int32}  (h : C m12_in [(.int a0), (.int 0), (.int 10)] m (fun o m1 => ∃ x3 : Int32, o = .inl (some (.int x3)) ∧ St m1 ∧ ((¬ x3 = 0 → ((¬ (mI m1 668 11) = 0 → V m12_within 27 [some (.ref 668), some (.int a0), none, none, none, none] [(.int 0), (.ref 668)] m1 K) ∧ ((mI m1 668 11) = 0 → V m12_within 27 [some (.ref 668), some (.int a0), none, none, none, none] [(.int 2), (.ref 668)] m1 K))) ∧ (x3 = 0 → V m12_within 27 [some (.ref 668), some (.int a0), none, none, none, none] [(.int 1), (.ref 668)] m1 K)))) : V m12_within 0 [some (.ref 668), some (.int a0), none, none, none, none] [] m K := by
  refine r_aload_n (y := m12_within) dX12_within_0 rfl rfl ?_
  refine r_iload_n (y := m12_within) dX12_within_1 rfl rfl ?_
  refine r_iconst (y := m12_within) (v := 0) dX12_within_2 (by decide) ?_
  refine r_bipush (y := m12_within) (v := 10) dX12_within_3 (by decide) ?_
  refine r_callS (y := m12_within) (As := [(.int a0), (.int 0), (.int 10)]) dX12_within_5 rfl k12_in lm_X12_154 rfl ⟨by decide, by decide⟩ (Nat.le_of_ble_eq_true rfl) (C.mono h ?_)
  rintro _ m1 ⟨x3, rfl, hm2, h⟩
  refine ⟨_, rfl, ?_⟩
  refine r_if_ne (y := m12_within) (tgt := 15) dX12_within_8 (by decide) (fun hc4 => ?_) (fun hc4 => ?_)
  · have h := h.1 hc4
    refine r_aload_n (y := m12_within) dX12_within_15 rfl rfl ?_
    refine g_X12_220 (y := m12_within) rfl dX12_within_16 hm2 ?_
    refine r_if_ne (y := m12_within) (tgt := 26) dX12_within_19 (by decide) (fun hc5 => ?_) (fun hc5 => ?_)
    · have h := h.1 hc5
      refine r_iconst (y := m12_within) (v := 0) dX12_within_26 (by decide) ?_
      exact h
    · have h := h.2 hc5
      refine r_iconst (y := m12_within) (v := 2) dX12_within_22 (by decide) ?_
      refine r_goto (y := m12_within) (tgt := 27) dX12_within_23 (by decide) ?_
      exact h
  · have h := h.2 hc4
    refine r_iconst (y := m12_within) (v := 1) dX12_within_11 (by decide) ?_
    refine r_goto (y := m12_within) (tgt := 27) dX12_within_12 (by decide) ?_
    exact h
set_option maxHeartbeats 4000000 in
set_option maxRecDepth 100000 in
theorem u12_within_27 {m : Mm} {K : Option Value ⊕ String → Mm → Prop} (hm : St m) {v1 : Int32} {s1 : Int32}  (h : ((s1 ≤ 0 → V m12_within 49 [some (.ref 668), some (.int v1), some (.int 0), some (.int 0), some (.int 0), some (.int 1)] [] (mSetI m 668 12 s1) K) ∧ (¬ s1 ≤ 0 → K (.inl (some (.int 0))) (mSetI m 668 12 s1)))) : V m12_within 27 [some (.ref 668), some (.int v1), none, none, none, none] [(.int s1), (.ref 668)] m K := by
  refine p_X12_147 (y := m12_within) rfl dX12_within_27 hm ?_
  refine r_aload_n (y := m12_within) dX12_within_30 rfl rfl ?_
  refine g_X12_147 (y := m12_within) rfl dX12_within_31 (St.i hm) ?_
  refine V.top (b := s1) (by first | rfl | simp [mI_set, mI_setR]) ?_
  refine r_if_le (y := m12_within) (tgt := 39) dX12_within_34 (by decide) (fun hc1 => ?_) (fun hc1 => ?_)
  · have h := h.1 hc1
    refine r_iconst (y := m12_within) (v := 0) dX12_within_39 (by decide) ?_
    refine r_istore_n (y := m12_within) (L' := [some (.ref 668), some (.int v1), some (.int 0), none, none, none]) dX12_within_40 rfl (Nat.le_of_ble_eq_true rfl) rfl ?_
    refine r_iconst (y := m12_within) (v := 0) dX12_within_41 (by decide) ?_
    refine r_istore_n (y := m12_within) (L' := [some (.ref 668), some (.int v1), some (.int 0), some (.int 0), none, none]) dX12_within_42 rfl (Nat.le_of_ble_eq_true rfl) rfl ?_
    refine r_iconst (y := m12_within) (v := 0) dX12_within_43 (by decide) ?_
    refine r_istore (y := m12_within) (L' := [some (.ref 668), some (.int v1), some (.int 0), some (.int 0), some (.int 0), none]) dX12_within_44 (Nat.le_of_ble_eq_true rfl) rfl ?_
    refine r_iconst (y := m12_within) (v := 1) dX12_within_46 (by decide) ?_
    refine r_istore (y := m12_within) (L' := [some (.ref 668), some (.int v1), some (.int 0), some (.int 0), some (.int 0), some (.int 1)]) dX12_within_47 (Nat.le_of_ble_eq_true rfl) rfl ?_
    exact h
  · have h := h.2 hc1
    refine r_iconst (y := m12_within) (v := 0) dX12_within_37 (by decide) ?_
    exact r_iret (y := m12_within) dX12_within_38 rfl rfl h
set_option maxHeartbeats 4000000 in
set_option maxRecDepth 100000 in
theorem u12_within_49 {m : Mm} {K : Option Value ⊕ String → Mm → Prop} (hm : St m) {v1 : Int32} {v2 : Int32} {v3 : Int32} {v4 : Int32} {v5 : Int32}  (h : ((v5 = 0 → K (.inl (some (.int v3))) m) ∧ (¬ v5 = 0 → vp_in 0 110 ∧ C m12_run [(.ref 668)] (mSetI m 693 0 v4) (fun o m3 => o = .inl none ∧ St m3 ∧ ((¬ (v2 + 1) = 600 → ((¬ (mI m3 668 29) = 1 → V m12_within 92 [some (.ref 668), some (.int v1), some (.int (v2 + 1)), some (.int v3), some (.int v4), some (.int v5)] [(.int 0), (.int v3)] m3 K) ∧ ((mI m3 668 29) = 1 → V m12_within 92 [some (.ref 668), some (.int v1), some (.int (v2 + 1)), some (.int v3), some (.int v4), some (.int v5)] [(.int 1), (.int v3)] m3 K))) ∧ ((v2 + 1) = 600 → K (.inl (some (.int (-1)))) m3)))))) : V m12_within 49 [some (.ref 668), some (.int v1), some (.int v2), some (.int v3), some (.int v4), some (.int v5)] [] m K := by
  refine r_iload (y := m12_within) dX12_within_49 rfl ?_
  refine r_if_eq (y := m12_within) (tgt := 200) dX12_within_51 (by decide) (fun hc1 => ?_) (fun hc1 => ?_)
  · have h := h.1 hc1
    refine r_iload_n (y := m12_within) dX12_within_200 rfl rfl ?_
    exact r_iret (y := m12_within) dX12_within_201 rfl rfl h
  · have h := h.2 hc1
    refine r_aload_n (y := m12_within) dX12_within_54 rfl rfl ?_
    refine g_X12_83 (y := m12_within) rfl dX12_within_55 hm ?_
    refine r_iconst (y := m12_within) (v := 0) dX12_within_58 (by decide) ?_
    refine r_iload (y := m12_within) dX12_within_59 rfl ?_
    obtain ⟨hb2, h⟩ := h
    refine r_iast (y := m12_within) (n := 110) dX12_within_61 (sa_693 hm) hb2 ?_
    refine r_aload_n (y := m12_within) dX12_within_62 rfl rfl ?_
    refine r_callV (y := m12_within) (As := []) (b := 668) (ci := 12) dX12_within_63 rfl k12_run lm_X12_357 rfl ⟨by decide, by decide⟩ (so_668 (St.i hm)) (by decide) rfl (Nat.le_of_ble_eq_true rfl) (C.mono h ?_)
    rintro _ m3 ⟨rfl, hm4, h⟩
    refine ⟨none, rfl, ?_⟩
    refine r_iinc (y := m12_within) (v := (v2 + 1)) (L' := [some (.ref 668), some (.int v1), some (.int (v2 + 1)), some (.int v3), some (.int v4), some (.int v5)]) dX12_within_66 rfl (by rfl) rfl ?_
    refine r_iload_n (y := m12_within) dX12_within_69 rfl rfl ?_
    refine r_sipush (y := m12_within) (v := 600) dX12_within_70 (by decide) ?_
    refine r_icmp_ne (y := m12_within) (tgt := 78) dX12_within_73 (by decide) (fun hc5 => ?_) (fun hc5 => ?_)
    · have h := h.1 hc5
      refine r_iload_n (y := m12_within) dX12_within_78 rfl rfl ?_
      refine r_aload_n (y := m12_within) dX12_within_79 rfl rfl ?_
      refine g_X12_245 (y := m12_within) rfl dX12_within_80 hm4 ?_
      refine r_iconst (y := m12_within) (v := 1) dX12_within_83 (by decide) ?_
      refine r_icmp_ne (y := m12_within) (tgt := 91) dX12_within_84 (by decide) (fun hc6 => ?_) (fun hc6 => ?_)
      · have h := h.1 hc6
        refine r_iconst (y := m12_within) (v := 0) dX12_within_91 (by decide) ?_
        exact h
      · have h := h.2 hc6
        refine r_iconst (y := m12_within) (v := 1) dX12_within_87 (by decide) ?_
        refine r_goto (y := m12_within) (tgt := 92) dX12_within_88 (by decide) ?_
        exact h
    · have h := h.2 hc5
      refine r_iconst (y := m12_within) (v := (-1)) dX12_within_76 (by decide) ?_
      exact r_iret (y := m12_within) dX12_within_77 rfl rfl h
set_option maxHeartbeats 4000000 in
set_option maxRecDepth 100000 in
theorem u12_within_92 {m : Mm} {K : Option Value ⊕ String → Mm → Prop} (hm : St m) {v1 : Int32} {v2 : Int32} {v3 : Int32} {v4 : Int32} {v5 : Int32} {s0 : Int32} {s1 : Int32}  (h : ((¬ (mI m 668 29) = 5 → V m12_within 133 [some (.ref 668), some (.int v1), some (.int v2), some (.int (s0 + s1)), some (.int v4), some (.int v5)] [] m K) ∧ ((mI m 668 29) = 5 → ((v1 ≤ v4 → V m12_within 133 [some (.ref 668), some (.int v1), some (.int v2), some (.int (s0 + s1)), some (.int v4), some (.int v5)] [] m K) ∧ (¬ v1 ≤ v4 → vp_in v4 41 ∧ vp_in v4 4510 ∧ V m12_within 49 [some (.ref 668), some (.int v1), some (.int v2), some (.int (s0 + s1)), some (.int (v4 + 1)), some (.int v5)] [] (mSetI (mSetI m 713 (Int32.toNatClampNeg v4) (mI m 668 39)) 695 (Int32.toNatClampNeg v4) 0) K))))) : V m12_within 92 [some (.ref 668), some (.int v1), some (.int v2), some (.int v3), some (.int v4), some (.int v5)] [(.int s1), (.int s0)] m K := by
  refine r_iadd (y := m12_within) dX12_within_92 ?_
  refine r_istore_n (y := m12_within) (L' := [some (.ref 668), some (.int v1), some (.int v2), some (.int (s0 + s1)), some (.int v4), some (.int v5)]) dX12_within_93 rfl (Nat.le_of_ble_eq_true rfl) rfl ?_
  refine r_aload_n (y := m12_within) dX12_within_94 rfl rfl ?_
  refine g_X12_245 (y := m12_within) rfl dX12_within_95 hm ?_
  refine r_iconst (y := m12_within) (v := 5) dX12_within_98 (by decide) ?_
  refine r_icmp_ne (y := m12_within) (tgt := 133) dX12_within_99 (by decide) (fun hc1 => ?_) (fun hc1 => ?_)
  · have h := h.1 hc1
    exact h
  · have h := h.2 hc1
    refine r_iload (y := m12_within) dX12_within_102 rfl ?_
    refine r_iload_n (y := m12_within) dX12_within_104 rfl rfl ?_
    refine r_icmp_ge (y := m12_within) (tgt := 133) dX12_within_105 (by decide) (fun hc2 => ?_) (fun hc2 => ?_)
    · have h := h.1 hc2
      exact h
    · have h := h.2 hc2
      refine r_aload_n (y := m12_within) dX12_within_108 rfl rfl ?_
      refine g_X12_144 (y := m12_within) rfl dX12_within_109 hm ?_
      refine r_iload (y := m12_within) dX12_within_112 rfl ?_
      refine r_aload_n (y := m12_within) dX12_within_114 rfl rfl ?_
      refine g_X12_248 (y := m12_within) rfl dX12_within_115 hm ?_
      obtain ⟨hb3, h⟩ := h
      refine r_iast (y := m12_within) (n := 41) dX12_within_118 (sa_713 hm) hb3 ?_
      refine r_aload_n (y := m12_within) dX12_within_119 rfl rfl ?_
      refine g_X12_89 (y := m12_within) rfl dX12_within_120 (St.i hm) ?_
      refine r_iload (y := m12_within) dX12_within_123 rfl ?_
      refine r_iconst (y := m12_within) (v := 0) dX12_within_125 (by decide) ?_
      obtain ⟨hb4, h⟩ := h
      refine r_iast (y := m12_within) (n := 4510) dX12_within_126 (sa_695 (St.i hm)) hb4 ?_
      refine r_iinc (y := m12_within) (v := (v4 + 1)) (L' := [some (.ref 668), some (.int v1), some (.int v2), some (.int (s0 + s1)), some (.int (v4 + 1)), some (.int v5)]) dX12_within_127 rfl (by rfl) rfl ?_
      refine r_goto (y := m12_within) (tgt := 49) dX12_within_130 (by decide) ?_
      exact h
set_option maxHeartbeats 4000000 in
set_option maxRecDepth 100000 in
theorem u12_within_133 {m : Mm} {K : Option Value ⊕ String → Mm → Prop} (hm : St m) {v1 : Int32} {v2 : Int32} {v3 : Int32} {v4 : Int32} {v5 : Int32}  (h : ((v4 ≤ 0 → V m12_within 167 [some (.ref 668), some (.int v1), some (.int v2), some (.int v3), some (.int v4), some (.int v5)] [] m K) ∧ (¬ v4 ≤ 0 → vp_in (v4 - 1) 4510 ∧ vp_in (v4 - 1) 41 ∧ ((¬ ((mI m 695 (Int32.toNatClampNeg (v4 - 1))) + 1) = (mI m 713 (Int32.toNatClampNeg (v4 - 1))) → V m12_within 167 [some (.ref 668), some (.int v1), some (.int v2), some (.int v3), some (.int v4), some (.int v5)] [] m K) ∧ (((mI m 695 (Int32.toNatClampNeg (v4 - 1))) + 1) = (mI m 713 (Int32.toNatClampNeg (v4 - 1))) → V m12_within 133 [some (.ref 668), some (.int v1), some (.int v2), some (.int v3), some (.int (v4 + (-1))), some (.int v5)] [] m K))))) : V m12_within 133 [some (.ref 668), some (.int v1), some (.int v2), some (.int v3), some (.int v4), some (.int v5)] [] m K := by
  refine r_iload (y := m12_within) dX12_within_133 rfl ?_
  refine r_if_le (y := m12_within) (tgt := 167) dX12_within_135 (by decide) (fun hc1 => ?_) (fun hc1 => ?_)
  · have h := h.1 hc1
    exact h
  · have h := h.2 hc1
    refine r_aload_n (y := m12_within) dX12_within_138 rfl rfl ?_
    refine g_X12_89 (y := m12_within) rfl dX12_within_139 hm ?_
    refine r_iload (y := m12_within) dX12_within_142 rfl ?_
    refine r_iconst (y := m12_within) (v := 1) dX12_within_144 (by decide) ?_
    refine r_isub (y := m12_within) dX12_within_145 ?_
    obtain ⟨hb2, h⟩ := h
    refine r_iald (y := m12_within) (n := 4510) dX12_within_146 (sa_695 hm) hb2 ?_
    refine r_iconst (y := m12_within) (v := 1) dX12_within_147 (by decide) ?_
    refine r_iadd (y := m12_within) dX12_within_148 ?_
    refine r_aload_n (y := m12_within) dX12_within_149 rfl rfl ?_
    refine g_X12_144 (y := m12_within) rfl dX12_within_150 hm ?_
    refine r_iload (y := m12_within) dX12_within_153 rfl ?_
    refine r_iconst (y := m12_within) (v := 1) dX12_within_155 (by decide) ?_
    refine r_isub (y := m12_within) dX12_within_156 ?_
    obtain ⟨hb3, h⟩ := h
    refine r_iald (y := m12_within) (n := 41) dX12_within_157 (sa_713 hm) hb3 ?_
    refine r_icmp_ne (y := m12_within) (tgt := 167) dX12_within_158 (by decide) (fun hc4 => ?_) (fun hc4 => ?_)
    · have h := h.1 hc4
      exact h
    · have h := h.2 hc4
      refine r_iinc (y := m12_within) (v := (v4 + (-1))) (L' := [some (.ref 668), some (.int v1), some (.int v2), some (.int v3), some (.int (v4 + (-1))), some (.int v5)]) dX12_within_161 rfl (by rfl) rfl ?_
      refine r_goto (y := m12_within) (tgt := 133) dX12_within_164 (by decide) ?_
      exact h
set_option maxHeartbeats 4000000 in
set_option maxRecDepth 100000 in
theorem u12_within_167 {m : Mm} {K : Option Value ⊕ String → Mm → Prop} (hm : St m) {v1 : Int32} {v2 : Int32} {v3 : Int32} {v4 : Int32} {v5 : Int32}  (h : ((v4 ≤ 0 → V m12_within 177 [some (.ref 668), some (.int v1), some (.int v2), some (.int v3), some (.int v4), some (.int v5)] [(.int 0)] m K) ∧ (¬ v4 ≤ 0 → V m12_within 177 [some (.ref 668), some (.int v1), some (.int v2), some (.int v3), some (.int v4), some (.int v5)] [(.int 1)] m K))) : V m12_within 167 [some (.ref 668), some (.int v1), some (.int v2), some (.int v3), some (.int v4), some (.int v5)] [] m K := by
  refine r_iload (y := m12_within) dX12_within_167 rfl ?_
  refine r_if_le (y := m12_within) (tgt := 176) dX12_within_169 (by decide) (fun hc1 => ?_) (fun hc1 => ?_)
  · have h := h.1 hc1
    refine r_iconst (y := m12_within) (v := 0) dX12_within_176 (by decide) ?_
    exact h
  · have h := h.2 hc1
    refine r_iconst (y := m12_within) (v := 1) dX12_within_172 (by decide) ?_
    refine r_goto (y := m12_within) (tgt := 177) dX12_within_173 (by decide) ?_
    exact h
set_option maxHeartbeats 4000000 in
set_option maxRecDepth 100000 in
theorem u12_within_177 {m : Mm} {K : Option Value ⊕ String → Mm → Prop} (hm : St m) {v1 : Int32} {v2 : Int32} {v3 : Int32} {v4 : Int32} {v5 : Int32} {s0 : Int32}  (h : ((s0 = 0 → V m12_within 49 [some (.ref 668), some (.int v1), some (.int v2), some (.int v3), some (.int v4), some (.int s0)] [] m K) ∧ (¬ s0 = 0 → vp_in (v4 - 1) 4510 ∧ vp_in (v4 - 1) 4510 ∧ V m12_within 49 [some (.ref 668), some (.int v1), some (.int v2), some (.int v3), some (.int v4), some (.int s0)] [] (mSetI m 695 (Int32.toNatClampNeg (v4 - 1)) ((mI m 695 (Int32.toNatClampNeg (v4 - 1))) + 1)) K))) : V m12_within 177 [some (.ref 668), some (.int v1), some (.int v2), some (.int v3), some (.int v4), some (.int v5)] [(.int s0)] m K := by
  refine r_istore (y := m12_within) (L' := [some (.ref 668), some (.int v1), some (.int v2), some (.int v3), some (.int v4), some (.int s0)]) dX12_within_177 (Nat.le_of_ble_eq_true rfl) rfl ?_
  refine r_iload (y := m12_within) dX12_within_179 rfl ?_
  refine r_if_eq (y := m12_within) (tgt := 49) dX12_within_181 (by decide) (fun hc1 => ?_) (fun hc1 => ?_)
  · have h := h.1 hc1
    exact h
  · have h := h.2 hc1
    refine r_aload_n (y := m12_within) dX12_within_184 rfl rfl ?_
    refine g_X12_89 (y := m12_within) rfl dX12_within_185 hm ?_
    refine r_iload (y := m12_within) dX12_within_188 rfl ?_
    refine r_iconst (y := m12_within) (v := 1) dX12_within_190 (by decide) ?_
    refine r_isub (y := m12_within) dX12_within_191 ?_
    refine r_dup2 (y := m12_within) dX12_within_192 ?_
    obtain ⟨hb2, h⟩ := h
    refine r_iald (y := m12_within) (n := 4510) dX12_within_193 (sa_695 hm) hb2 ?_
    refine r_iconst (y := m12_within) (v := 1) dX12_within_194 (by decide) ?_
    refine r_iadd (y := m12_within) dX12_within_195 ?_
    obtain ⟨hb3, h⟩ := h
    refine r_iast (y := m12_within) (n := 4510) dX12_within_196 (sa_695 hm) hb3 ?_
    refine r_goto (y := m12_within) (tgt := 49) dX12_within_197 (by decide) ?_
    exact h
set_option maxHeartbeats 4000000 in
set_option maxRecDepth 100000 in
theorem u12_lays {m : Mm} {K : Option Value ⊕ String → Mm → Prop} (hm : St m) {a0 : Int32}  (h : vp_in 0 110 ∧ ((¬ a0 = (-1) → V m12_lays 26 [some (.ref 668), some (.int a0), some (.int (mI m 668 58)), none] [(.int 1), (.int (mI m 693 0)), (.int (mI m 668 58)), (.ref 710)] m K) ∧ (a0 = (-1) → V m12_lays 26 [some (.ref 668), some (.int a0), some (.int (mI m 668 58)), none] [(.int 0), (.int (mI m 693 0)), (.int (mI m 668 58)), (.ref 710)] m K))) : V m12_lays 0 [some (.ref 668), some (.int a0), none, none] [] m K := by
  refine r_aload_n (y := m12_lays) dX12_lays_0 rfl rfl ?_
  refine g_X12_344 (y := m12_lays) rfl dX12_lays_1 hm ?_
  refine r_istore_n (y := m12_lays) (L' := [some (.ref 668), some (.int a0), some (.int (mI m 668 58)), none]) dX12_lays_4 rfl (Nat.le_of_ble_eq_true rfl) rfl ?_
  refine r_aload_n (y := m12_lays) dX12_lays_5 rfl rfl ?_
  refine g_X12_134 (y := m12_lays) rfl dX12_lays_6 hm ?_
  refine r_iload_n (y := m12_lays) dX12_lays_9 rfl rfl ?_
  refine r_aload_n (y := m12_lays) dX12_lays_10 rfl rfl ?_
  refine g_X12_83 (y := m12_lays) rfl dX12_lays_11 hm ?_
  refine r_iconst (y := m12_lays) (v := 0) dX12_lays_14 (by decide) ?_
  obtain ⟨hb1, h⟩ := h
  refine r_iald (y := m12_lays) (n := 110) dX12_lays_15 (sa_693 hm) hb1 ?_
  refine r_iload_n (y := m12_lays) dX12_lays_16 rfl rfl ?_
  refine r_iconst (y := m12_lays) (v := (-1)) dX12_lays_17 (by decide) ?_
  refine r_icmp_ne (y := m12_lays) (tgt := 25) dX12_lays_18 (by decide) (fun hc2 => ?_) (fun hc2 => ?_)
  · have h := h.1 hc2
    refine r_iconst (y := m12_lays) (v := 1) dX12_lays_25 (by decide) ?_
    exact h
  · have h := h.2 hc2
    refine r_iconst (y := m12_lays) (v := 0) dX12_lays_21 (by decide) ?_
    refine r_goto (y := m12_lays) (tgt := 26) dX12_lays_22 (by decide) ?_
    exact h
set_option maxHeartbeats 4000000 in
set_option maxRecDepth 100000 in
theorem u12_lays_26 {m : Mm} {K : Option Value ⊕ String → Mm → Prop} (hm : St m) {v1 : Int32} {v2 : Int32} {s1 : Int32} {s2 : Int32} {s3 : Int32}  (h : vp_in s1 5000 ∧ V m12_lays 30 [some (.ref 668), some (.int v1), some (.int v2), some (.int 0)] [] (mSetI m 710 (Int32.toNatClampNeg s1) (s2 + s3)) K) : V m12_lays 26 [some (.ref 668), some (.int v1), some (.int v2), none] [(.int s3), (.int s2), (.int s1), (.ref 710)] m K := by
  refine r_iadd (y := m12_lays) dX12_lays_26 ?_
  obtain ⟨hb1, h⟩ := h
  refine r_iast (y := m12_lays) (n := 5000) dX12_lays_27 (sa_710 hm) hb1 ?_
  refine r_iconst (y := m12_lays) (v := 0) dX12_lays_28 (by decide) ?_
  refine r_istore_n (y := m12_lays) (L' := [some (.ref 668), some (.int v1), some (.int v2), some (.int 0)]) dX12_lays_29 rfl (Nat.le_of_ble_eq_true rfl) rfl ?_
  exact h
set_option maxHeartbeats 4000000 in
set_option maxRecDepth 100000 in
theorem u12_lays_30 {m : Mm} {K : Option Value ⊕ String → Mm → Prop} (hm : St m) {v1 : Int32} {v2 : Int32} {v3 : Int32}  (h : vp_in 0 110 ∧ (((mI m 693 0) ≤ v3 → ((v1 = (-1) → V m12_lays 85 [some (.ref 668), some (.int v1), some (.int v2), some (.int v3)] [] m K) ∧ (¬ v1 = (-1) → vp_in 0 110 ∧ vp_in ((41 * v2) + (mI m 693 0)) 205000 ∧ V m12_lays 85 [some (.ref 668), some (.int v1), some (.int v2), some (.int v3)] [] (mSetI m 711 (Int32.toNatClampNeg ((41 * v2) + (mI m 693 0))) v1) K))) ∧ (¬ (mI m 693 0) ≤ v3 → vp_in v3 4510 ∧ vp_in ((41 * v2) + v3) 205000 ∧ V m12_lays 30 [some (.ref 668), some (.int v1), some (.int v2), some (.int (v3 + 1))] [] (mSetI m 711 (Int32.toNatClampNeg ((41 * v2) + v3)) (mI m 695 (Int32.toNatClampNeg v3))) K))) : V m12_lays 30 [some (.ref 668), some (.int v1), some (.int v2), some (.int v3)] [] m K := by
  refine r_iload_n (y := m12_lays) dX12_lays_30 rfl rfl ?_
  refine r_aload_n (y := m12_lays) dX12_lays_31 rfl rfl ?_
  refine g_X12_83 (y := m12_lays) rfl dX12_lays_32 hm ?_
  refine r_iconst (y := m12_lays) (v := 0) dX12_lays_35 (by decide) ?_
  obtain ⟨hb1, h⟩ := h
  refine r_iald (y := m12_lays) (n := 110) dX12_lays_36 (sa_693 hm) hb1 ?_
  refine r_icmp_ge (y := m12_lays) (tgt := 63) dX12_lays_37 (by decide) (fun hc2 => ?_) (fun hc2 => ?_)
  · have h := h.1 hc2
    refine r_iload_n (y := m12_lays) dX12_lays_63 rfl rfl ?_
    refine r_iconst (y := m12_lays) (v := (-1)) dX12_lays_64 (by decide) ?_
    refine r_icmp_eq (y := m12_lays) (tgt := 85) dX12_lays_65 (by decide) (fun hc3 => ?_) (fun hc3 => ?_)
    · have h := h.1 hc3
      exact h
    · have h := h.2 hc3
      refine r_aload_n (y := m12_lays) dX12_lays_68 rfl rfl ?_
      refine g_X12_138 (y := m12_lays) rfl dX12_lays_69 hm ?_
      refine r_bipush (y := m12_lays) (v := 41) dX12_lays_72 (by decide) ?_
      refine r_iload_n (y := m12_lays) dX12_lays_74 rfl rfl ?_
      refine r_imul (y := m12_lays) dX12_lays_75 ?_
      refine r_aload_n (y := m12_lays) dX12_lays_76 rfl rfl ?_
      refine g_X12_83 (y := m12_lays) rfl dX12_lays_77 hm ?_
      refine r_iconst (y := m12_lays) (v := 0) dX12_lays_80 (by decide) ?_
      obtain ⟨hb4, h⟩ := h
      refine r_iald (y := m12_lays) (n := 110) dX12_lays_81 (sa_693 hm) hb4 ?_
      refine r_iadd (y := m12_lays) dX12_lays_82 ?_
      refine r_iload_n (y := m12_lays) dX12_lays_83 rfl rfl ?_
      obtain ⟨hb5, h⟩ := h
      refine r_iast (y := m12_lays) (n := 205000) dX12_lays_84 (sa_711 hm) hb5 ?_
      exact h
  · have h := h.2 hc2
    refine r_aload_n (y := m12_lays) dX12_lays_40 rfl rfl ?_
    refine g_X12_138 (y := m12_lays) rfl dX12_lays_41 hm ?_
    refine r_bipush (y := m12_lays) (v := 41) dX12_lays_44 (by decide) ?_
    refine r_iload_n (y := m12_lays) dX12_lays_46 rfl rfl ?_
    refine r_imul (y := m12_lays) dX12_lays_47 ?_
    refine r_iload_n (y := m12_lays) dX12_lays_48 rfl rfl ?_
    refine r_iadd (y := m12_lays) dX12_lays_49 ?_
    refine r_aload_n (y := m12_lays) dX12_lays_50 rfl rfl ?_
    refine g_X12_89 (y := m12_lays) rfl dX12_lays_51 hm ?_
    refine r_iload_n (y := m12_lays) dX12_lays_54 rfl rfl ?_
    obtain ⟨hb6, h⟩ := h
    refine r_iald (y := m12_lays) (n := 4510) dX12_lays_55 (sa_695 hm) hb6 ?_
    obtain ⟨hb7, h⟩ := h
    refine r_iast (y := m12_lays) (n := 205000) dX12_lays_56 (sa_711 hm) hb7 ?_
    refine r_iinc (y := m12_lays) (v := (v3 + 1)) (L' := [some (.ref 668), some (.int v1), some (.int v2), some (.int (v3 + 1))]) dX12_lays_57 rfl (by rfl) rfl ?_
    refine r_goto (y := m12_lays) (tgt := 30) dX12_lays_60 (by decide) ?_
    exact h
set_option maxHeartbeats 4000000 in
set_option maxRecDepth 100000 in
theorem u12_lays_85 {m : Mm} {K : Option Value ⊕ String → Mm → Prop} (hm : St m) {v1 : Int32} {v2 : Int32} {v3 : Int32}  (h : vp_in (mI m 668 57) 5000 ∧ K (.inl none) (mSetI (mSetI (mSetI m 709 (Int32.toNatClampNeg (mI m 668 57)) v2) 668 58 ((mI m 668 58) + 1)) 668 57 ((mI m 668 57) + 1))) : V m12_lays 85 [some (.ref 668), some (.int v1), some (.int v2), some (.int v3)] [] m K := by
  refine r_aload_n (y := m12_lays) dX12_lays_85 rfl rfl ?_
  refine g_X12_131 (y := m12_lays) rfl dX12_lays_86 hm ?_
  refine r_aload_n (y := m12_lays) dX12_lays_89 rfl rfl ?_
  refine g_X12_347 (y := m12_lays) rfl dX12_lays_90 hm ?_
  refine r_iload_n (y := m12_lays) dX12_lays_93 rfl rfl ?_
  obtain ⟨hb1, h⟩ := h
  refine r_iast (y := m12_lays) (n := 5000) dX12_lays_94 (sa_709 hm) hb1 ?_
  refine r_aload_n (y := m12_lays) dX12_lays_95 rfl rfl ?_
  refine r_dup_r (y := m12_lays) dX12_lays_96 ?_
  refine g_X12_344 (y := m12_lays) rfl dX12_lays_97 (St.i hm) ?_
  refine V.top (b := (mI m 668 58)) (by first | rfl | simp [mI_set, mI_setR]) ?_
  refine r_iconst (y := m12_lays) (v := 1) dX12_lays_100 (by decide) ?_
  refine r_iadd (y := m12_lays) dX12_lays_101 ?_
  refine p_X12_344 (y := m12_lays) rfl dX12_lays_102 (St.i hm) ?_
  refine r_aload_n (y := m12_lays) dX12_lays_105 rfl rfl ?_
  refine r_dup_r (y := m12_lays) dX12_lays_106 ?_
  refine g_X12_347 (y := m12_lays) rfl dX12_lays_107 (St.i (St.i hm)) ?_
  refine V.top (b := (mI m 668 57)) (by first | rfl | simp [mI_set, mI_setR]) ?_
  refine r_iconst (y := m12_lays) (v := 1) dX12_lays_110 (by decide) ?_
  refine r_iadd (y := m12_lays) dX12_lays_111 ?_
  refine p_X12_347 (y := m12_lays) rfl dX12_lays_112 (St.i (St.i hm)) ?_
  exact r_ret (y := m12_lays) dX12_lays_115 rfl h
set_option maxHeartbeats 4000000 in
set_option maxRecDepth 100000 in
theorem u12_decide {m : Mm} {K : Option Value ⊕ String → Mm → Prop} (hm : St m) {a0 : Int32} {a1 : Int32}  (h : vp_in a0 110 ∧ vp_in a0 110 ∧ ((¬ (mI m 694 (Int32.toNatClampNeg a0)) = 40 → vp_in a0 110 ∧ vp_in a0 110 ∧ ((¬ (mI m 694 (Int32.toNatClampNeg a0)) = (mI m 693 (Int32.toNatClampNeg a0)) → V m12_decide 61 [some (.ref 668), some (.int a0), some (.int a1), some (.int ((41 * a0) + (mI m 694 (Int32.toNatClampNeg a0))))] [] m K) ∧ ((mI m 694 (Int32.toNatClampNeg a0)) = (mI m 693 (Int32.toNatClampNeg a0)) → ((¬ a0 = 0 → V m12_decide 61 [some (.ref 668), some (.int a0), some (.int a1), some (.int ((41 * a0) + (mI m 694 (Int32.toNatClampNeg a0))))] [] m K) ∧ (a0 = 0 → K (.inl (some (.int 0))) (mSetI (mSetI m 668 29 5) 668 39 a1)))))) ∧ ((mI m 694 (Int32.toNatClampNeg a0)) = 40 → K (.inl (some (.int 0))) (mSetI m 668 29 4)))) : V m12_decide 0 [some (.ref 668), some (.int a0), some (.int a1), none] [] m K := by
  refine r_bipush (y := m12_decide) (v := 41) dX12_decide_0 (by decide) ?_
  refine r_iload_n (y := m12_decide) dX12_decide_2 rfl rfl ?_
  refine r_imul (y := m12_decide) dX12_decide_3 ?_
  refine r_aload_n (y := m12_decide) dX12_decide_4 rfl rfl ?_
  refine g_X12_86 (y := m12_decide) rfl dX12_decide_5 hm ?_
  refine r_iload_n (y := m12_decide) dX12_decide_8 rfl rfl ?_
  obtain ⟨hb1, h⟩ := h
  refine r_iald (y := m12_decide) (n := 110) dX12_decide_9 (sa_694 hm) hb1 ?_
  refine r_iadd (y := m12_decide) dX12_decide_10 ?_
  refine r_istore_n (y := m12_decide) (L' := [some (.ref 668), some (.int a0), some (.int a1), some (.int ((41 * a0) + (mI m 694 (Int32.toNatClampNeg a0))))]) dX12_decide_11 rfl (Nat.le_of_ble_eq_true rfl) rfl ?_
  refine r_aload_n (y := m12_decide) dX12_decide_12 rfl rfl ?_
  refine g_X12_86 (y := m12_decide) rfl dX12_decide_13 hm ?_
  refine r_iload_n (y := m12_decide) dX12_decide_16 rfl rfl ?_
  obtain ⟨hb2, h⟩ := h
  refine r_iald (y := m12_decide) (n := 110) dX12_decide_17 (sa_694 hm) hb2 ?_
  refine r_bipush (y := m12_decide) (v := 40) dX12_decide_18 (by decide) ?_
  refine r_icmp_ne (y := m12_decide) (tgt := 30) dX12_decide_20 (by decide) (fun hc3 => ?_) (fun hc3 => ?_)
  · have h := h.1 hc3
    refine r_aload_n (y := m12_decide) dX12_decide_30 rfl rfl ?_
    refine g_X12_86 (y := m12_decide) rfl dX12_decide_31 hm ?_
    refine r_iload_n (y := m12_decide) dX12_decide_34 rfl rfl ?_
    obtain ⟨hb4, h⟩ := h
    refine r_iald (y := m12_decide) (n := 110) dX12_decide_35 (sa_694 hm) hb4 ?_
    refine r_aload_n (y := m12_decide) dX12_decide_36 rfl rfl ?_
    refine g_X12_83 (y := m12_decide) rfl dX12_decide_37 hm ?_
    refine r_iload_n (y := m12_decide) dX12_decide_40 rfl rfl ?_
    obtain ⟨hb5, h⟩ := h
    refine r_iald (y := m12_decide) (n := 110) dX12_decide_41 (sa_693 hm) hb5 ?_
    refine r_icmp_ne (y := m12_decide) (tgt := 61) dX12_decide_42 (by decide) (fun hc6 => ?_) (fun hc6 => ?_)
    · have h := h.1 hc6
      exact h
    · have h := h.2 hc6
      refine r_iload_n (y := m12_decide) dX12_decide_45 rfl rfl ?_
      refine r_if_ne (y := m12_decide) (tgt := 61) dX12_decide_46 (by decide) (fun hc7 => ?_) (fun hc7 => ?_)
      · have h := h.1 hc7
        exact h
      · have h := h.2 hc7
        refine r_aload_n (y := m12_decide) dX12_decide_49 rfl rfl ?_
        refine r_iconst (y := m12_decide) (v := 5) dX12_decide_50 (by decide) ?_
        refine p_X12_245 (y := m12_decide) rfl dX12_decide_51 hm ?_
        refine r_aload_n (y := m12_decide) dX12_decide_54 rfl rfl ?_
        refine r_iload_n (y := m12_decide) dX12_decide_55 rfl rfl ?_
        refine p_X12_248 (y := m12_decide) rfl dX12_decide_56 (St.i hm) ?_
        refine r_iconst (y := m12_decide) (v := 0) dX12_decide_59 (by decide) ?_
        exact r_iret (y := m12_decide) dX12_decide_60 rfl rfl h
  · have h := h.2 hc3
    refine r_aload_n (y := m12_decide) dX12_decide_23 rfl rfl ?_
    refine r_iconst (y := m12_decide) (v := 4) dX12_decide_24 (by decide) ?_
    refine p_X12_245 (y := m12_decide) rfl dX12_decide_25 hm ?_
    refine r_iconst (y := m12_decide) (v := 0) dX12_decide_28 (by decide) ?_
    exact r_iret (y := m12_decide) dX12_decide_29 rfl rfl h
set_option maxHeartbeats 4000000 in
set_option maxRecDepth 100000 in
theorem u12_decide_61 {m : Mm} {K : Option Value ⊕ String → Mm → Prop} (hm : St m) {v1 : Int32} {v2 : Int32} {v3 : Int32}  (h : vp_in v1 110 ∧ vp_in v1 110 ∧ ((¬ (mI m 694 (Int32.toNatClampNeg v1)) = (mI m 693 (Int32.toNatClampNeg v1)) → V m12_decide 93 [some (.ref 668), some (.int v1), some (.int v2), some (.int v3)] [] m K) ∧ ((mI m 694 (Int32.toNatClampNeg v1)) = (mI m 693 (Int32.toNatClampNeg v1)) → vp_in v3 4510 ∧ vp_in v1 110 ∧ vp_in v1 110 ∧ V m12_decide 93 [some (.ref 668), some (.int v1), some (.int v2), some (.int v3)] [] (mSetI (mSetI m 695 (Int32.toNatClampNeg v3) 0) 693 (Int32.toNatClampNeg v1) ((mI m 693 (Int32.toNatClampNeg v1)) + 1)) K))) : V m12_decide 61 [some (.ref 668), some (.int v1), some (.int v2), some (.int v3)] [] m K := by
  refine r_aload_n (y := m12_decide) dX12_decide_61 rfl rfl ?_
  refine g_X12_86 (y := m12_decide) rfl dX12_decide_62 hm ?_
  refine r_iload_n (y := m12_decide) dX12_decide_65 rfl rfl ?_
  obtain ⟨hb1, h⟩ := h
  refine r_iald (y := m12_decide) (n := 110) dX12_decide_66 (sa_694 hm) hb1 ?_
  refine r_aload_n (y := m12_decide) dX12_decide_67 rfl rfl ?_
  refine g_X12_83 (y := m12_decide) rfl dX12_decide_68 hm ?_
  refine r_iload_n (y := m12_decide) dX12_decide_71 rfl rfl ?_
  obtain ⟨hb2, h⟩ := h
  refine r_iald (y := m12_decide) (n := 110) dX12_decide_72 (sa_693 hm) hb2 ?_
  refine r_icmp_ne (y := m12_decide) (tgt := 93) dX12_decide_73 (by decide) (fun hc3 => ?_) (fun hc3 => ?_)
  · have h := h.1 hc3
    exact h
  · have h := h.2 hc3
    refine r_aload_n (y := m12_decide) dX12_decide_76 rfl rfl ?_
    refine g_X12_89 (y := m12_decide) rfl dX12_decide_77 hm ?_
    refine r_iload_n (y := m12_decide) dX12_decide_80 rfl rfl ?_
    refine r_iconst (y := m12_decide) (v := 0) dX12_decide_81 (by decide) ?_
    obtain ⟨hb4, h⟩ := h
    refine r_iast (y := m12_decide) (n := 4510) dX12_decide_82 (sa_695 hm) hb4 ?_
    refine r_aload_n (y := m12_decide) dX12_decide_83 rfl rfl ?_
    refine g_X12_83 (y := m12_decide) rfl dX12_decide_84 (St.i hm) ?_
    refine r_iload_n (y := m12_decide) dX12_decide_87 rfl rfl ?_
    refine r_dup2 (y := m12_decide) dX12_decide_88 ?_
    obtain ⟨hb5, h⟩ := h
    refine r_iald (y := m12_decide) (n := 110) dX12_decide_89 (sa_693 (St.i hm)) hb5 ?_
    refine V.top (b := (mI m 693 (Int32.toNatClampNeg v1))) (by first | rfl | simp [mI_set, mI_setR]) ?_
    refine r_iconst (y := m12_decide) (v := 1) dX12_decide_90 (by decide) ?_
    refine r_iadd (y := m12_decide) dX12_decide_91 ?_
    obtain ⟨hb6, h⟩ := h
    refine r_iast (y := m12_decide) (n := 110) dX12_decide_92 (sa_693 (St.i hm)) hb6 ?_
    exact h
set_option maxHeartbeats 4000000 in
set_option maxRecDepth 100000 in
theorem u12_decide_93 {m : Mm} {K : Option Value ⊕ String → Mm → Prop} (hm : St m) {v1 : Int32} {v2 : Int32} {v3 : Int32}  (h : vp_in v3 4510 ∧ vp_in v1 110 ∧ vp_in v1 110 ∧ vp_in v3 4510 ∧ K (.inl (some (.int (mI m 695 (Int32.toNatClampNeg v3))))) (mSetI (mSetI m 696 (Int32.toNatClampNeg v3) v2) 694 (Int32.toNatClampNeg v1) ((mI m 694 (Int32.toNatClampNeg v1)) + 1))) : V m12_decide 93 [some (.ref 668), some (.int v1), some (.int v2), some (.int v3)] [] m K := by
  refine r_aload_n (y := m12_decide) dX12_decide_93 rfl rfl ?_
  refine g_X12_92 (y := m12_decide) rfl dX12_decide_94 hm ?_
  refine r_iload_n (y := m12_decide) dX12_decide_97 rfl rfl ?_
  refine r_iload_n (y := m12_decide) dX12_decide_98 rfl rfl ?_
  obtain ⟨hb1, h⟩ := h
  refine r_iast (y := m12_decide) (n := 4510) dX12_decide_99 (sa_696 hm) hb1 ?_
  refine r_aload_n (y := m12_decide) dX12_decide_100 rfl rfl ?_
  refine g_X12_86 (y := m12_decide) rfl dX12_decide_101 (St.i hm) ?_
  refine r_iload_n (y := m12_decide) dX12_decide_104 rfl rfl ?_
  refine r_dup2 (y := m12_decide) dX12_decide_105 ?_
  obtain ⟨hb2, h⟩ := h
  refine r_iald (y := m12_decide) (n := 110) dX12_decide_106 (sa_694 (St.i hm)) hb2 ?_
  refine V.top (b := (mI m 694 (Int32.toNatClampNeg v1))) (by first | rfl | simp [mI_set, mI_setR]) ?_
  refine r_iconst (y := m12_decide) (v := 1) dX12_decide_107 (by decide) ?_
  refine r_iadd (y := m12_decide) dX12_decide_108 ?_
  obtain ⟨hb3, h⟩ := h
  refine r_iast (y := m12_decide) (n := 110) dX12_decide_109 (sa_694 (St.i hm)) hb3 ?_
  refine r_aload_n (y := m12_decide) dX12_decide_110 rfl rfl ?_
  refine g_X12_89 (y := m12_decide) rfl dX12_decide_111 (St.i (St.i hm)) ?_
  refine r_iload_n (y := m12_decide) dX12_decide_114 rfl rfl ?_
  obtain ⟨hb4, h⟩ := h
  refine r_iald (y := m12_decide) (n := 4510) dX12_decide_115 (sa_695 (St.i (St.i hm))) hb4 ?_
  refine V.top (b := (mI m 695 (Int32.toNatClampNeg v3))) (by first | rfl | simp [mI_set, mI_setR]) ?_
  exact r_iret (y := m12_decide) dX12_decide_116 rfl rfl h
set_option maxHeartbeats 4000000 in
set_option maxRecDepth 100000 in
theorem u12_opens {m : Mm} {K : Option Value ⊕ String → Mm → Prop} (hm : St m) {a0 : Int32} {a1 : Int32} {a2 : Int32}  (h : C m12_namesAt [(.ref 668), (.int a0)] m (fun o m1 => ∃ x3 : Int32, o = .inl (some (.int x3)) ∧ St m1 ∧ V m12_opens 10 [some (.ref 668), some (.int a0), some (.int a1), some (.int a2), some (.int x3), some (.int 0)] [] m1 K)) : V m12_opens 0 [some (.ref 668), some (.int a0), some (.int a1), some (.int a2), none, none] [] m K := by
  refine r_aload_n (y := m12_opens) dX12_opens_0 rfl rfl ?_
  refine r_iload_n (y := m12_opens) dX12_opens_1 rfl rfl ?_
  refine r_callV (y := m12_opens) (As := [(.int a0)]) (b := 668) (ci := 12) dX12_opens_2 rfl k12_namesAt lm_X12_208 rfl ⟨by decide, by decide⟩ (so_668 hm) (by decide) rfl (Nat.le_of_ble_eq_true rfl) (C.mono h ?_)
  rintro _ m1 ⟨x3, rfl, hm2, h⟩
  refine ⟨_, rfl, ?_⟩
  refine r_istore (y := m12_opens) (L' := [some (.ref 668), some (.int a0), some (.int a1), some (.int a2), some (.int x3), none]) dX12_opens_5 (Nat.le_of_ble_eq_true rfl) rfl ?_
  refine r_iconst (y := m12_opens) (v := 0) dX12_opens_7 (by decide) ?_
  refine r_istore (y := m12_opens) (L' := [some (.ref 668), some (.int a0), some (.int a1), some (.int a2), some (.int x3), some (.int 0)]) dX12_opens_8 (Nat.le_of_ble_eq_true rfl) rfl ?_
  exact h
set_option maxHeartbeats 4000000 in
set_option maxRecDepth 100000 in
theorem u12_opens_10 {m : Mm} {K : Option Value ⊕ String → Mm → Prop} (hm : St m) {v1 : Int32} {v2 : Int32} {v3 : Int32} {v4 : Int32} {v5 : Int32}  (h : ((6 ≤ v5 → K (.inl none) m) ∧ (¬ 6 ≤ v5 → ((¬ ((v4 >>> (v5 &&& 31)) &&& 1) = 1 → V m12_opens 63 [some (.ref 668), some (.int v1), some (.int v2), some (.int v3), some (.int v4), some (.int v5)] [] m K) ∧ (((v4 >>> (v5 &&& 31)) &&& 1) = 1 → vp_in ((6 * v2) + v5) 1200 ∧ ((¬ (mI m 685 (Int32.toNatClampNeg ((6 * v2) + v5))) = (-1) → V m12_opens 63 [some (.ref 668), some (.int v1), some (.int v2), some (.int v3), some (.int v4), some (.int v5)] [] m K) ∧ ((mI m 685 (Int32.toNatClampNeg ((6 * v2) + v5))) = (-1) → C m12_newThing [(.ref 668), (.int 0), (.int 0), (.int v3)] m (fun o m5 => ∃ x7 : Int32, o = .inl (some (.int x7)) ∧ St m5 ∧ vp_in ((6 * v2) + v5) 1200 ∧ V m12_opens 63 [some (.ref 668), some (.int v1), some (.int v2), some (.int v3), some (.int v4), some (.int v5)] [] (mSetI m5 685 (Int32.toNatClampNeg ((6 * v2) + v5)) x7) K)))))))) : V m12_opens 10 [some (.ref 668), some (.int v1), some (.int v2), some (.int v3), some (.int v4), some (.int v5)] [] m K := by
  refine r_iload (y := m12_opens) dX12_opens_10 rfl ?_
  refine r_bipush (y := m12_opens) (v := 6) dX12_opens_12 (by decide) ?_
  refine r_icmp_ge (y := m12_opens) (tgt := 69) dX12_opens_14 (by decide) (fun hc1 => ?_) (fun hc1 => ?_)
  · have h := h.1 hc1
    exact r_ret (y := m12_opens) dX12_opens_69 rfl h
  · have h := h.2 hc1
    refine r_iload (y := m12_opens) dX12_opens_17 rfl ?_
    refine r_iload (y := m12_opens) dX12_opens_19 rfl ?_
    refine r_ishr (y := m12_opens) dX12_opens_21 ?_
    refine r_iconst (y := m12_opens) (v := 1) dX12_opens_22 (by decide) ?_
    refine r_iand (y := m12_opens) dX12_opens_23 ?_
    refine r_iconst (y := m12_opens) (v := 1) dX12_opens_24 (by decide) ?_
    refine r_icmp_ne (y := m12_opens) (tgt := 63) dX12_opens_25 (by decide) (fun hc2 => ?_) (fun hc2 => ?_)
    · have h := h.1 hc2
      exact h
    · have h := h.2 hc2
      refine r_aload_n (y := m12_opens) dX12_opens_28 rfl rfl ?_
      refine g_X12_59 (y := m12_opens) rfl dX12_opens_29 hm ?_
      refine r_bipush (y := m12_opens) (v := 6) dX12_opens_32 (by decide) ?_
      refine r_iload_n (y := m12_opens) dX12_opens_34 rfl rfl ?_
      refine r_imul (y := m12_opens) dX12_opens_35 ?_
      refine r_iload (y := m12_opens) dX12_opens_36 rfl ?_
      refine r_iadd (y := m12_opens) dX12_opens_38 ?_
      obtain ⟨hb3, h⟩ := h
      refine r_iald (y := m12_opens) (n := 1200) dX12_opens_39 (sa_685 hm) hb3 ?_
      refine r_iconst (y := m12_opens) (v := (-1)) dX12_opens_40 (by decide) ?_
      refine r_icmp_ne (y := m12_opens) (tgt := 63) dX12_opens_41 (by decide) (fun hc4 => ?_) (fun hc4 => ?_)
      · have h := h.1 hc4
        exact h
      · have h := h.2 hc4
        refine r_aload_n (y := m12_opens) dX12_opens_44 rfl rfl ?_
        refine g_X12_59 (y := m12_opens) rfl dX12_opens_45 hm ?_
        refine r_bipush (y := m12_opens) (v := 6) dX12_opens_48 (by decide) ?_
        refine r_iload_n (y := m12_opens) dX12_opens_50 rfl rfl ?_
        refine r_imul (y := m12_opens) dX12_opens_51 ?_
        refine r_iload (y := m12_opens) dX12_opens_52 rfl ?_
        refine r_iadd (y := m12_opens) dX12_opens_54 ?_
        refine r_aload_n (y := m12_opens) dX12_opens_55 rfl rfl ?_
        refine r_iconst (y := m12_opens) (v := 0) dX12_opens_56 (by decide) ?_
        refine r_iconst (y := m12_opens) (v := 0) dX12_opens_57 (by decide) ?_
        refine r_iload_n (y := m12_opens) dX12_opens_58 rfl rfl ?_
        refine r_callV (y := m12_opens) (As := [(.int 0), (.int 0), (.int v3)]) (b := 668) (ci := 12) dX12_opens_59 rfl k12_newThing lm_X12_233 rfl ⟨by decide, by decide⟩ (so_668 hm) (by decide) rfl (Nat.le_of_ble_eq_true rfl) (C.mono h ?_)
        rintro _ m5 ⟨x7, rfl, hm6, h⟩
        refine ⟨_, rfl, ?_⟩
        obtain ⟨hb8, h⟩ := h
        refine r_iast (y := m12_opens) (n := 1200) dX12_opens_62 (sa_685 hm6) hb8 ?_
        exact h
set_option maxHeartbeats 4000000 in
set_option maxRecDepth 100000 in
theorem u12_opens_63 {m : Mm} {K : Option Value ⊕ String → Mm → Prop} (hm : St m) {v1 : Int32} {v2 : Int32} {v3 : Int32} {v4 : Int32} {v5 : Int32}  (h : V m12_opens 10 [some (.ref 668), some (.int v1), some (.int v2), some (.int v3), some (.int v4), some (.int (v5 + 1))] [] m K) : V m12_opens 63 [some (.ref 668), some (.int v1), some (.int v2), some (.int v3), some (.int v4), some (.int v5)] [] m K := by
  refine r_iinc (y := m12_opens) (v := (v5 + 1)) (L' := [some (.ref 668), some (.int v1), some (.int v2), some (.int v3), some (.int v4), some (.int (v5 + 1))]) dX12_opens_63 rfl (by rfl) rfl ?_
  refine r_goto (y := m12_opens) (tgt := 10) dX12_opens_66 (by decide) ?_
  exact h
set_option maxHeartbeats 4000000 in
set_option maxRecDepth 100000 in
theorem u12_fail {m : Mm} {K : Option Value ⊕ String → Mm → Prop} (hm : St m) {a0 : Int32}  (h : ((¬ a0 = 0 → vp_in a0 110 ∧ vp_in a0 110 ∧ V m12_fail 34 [some (.ref 668), some (.int a0), some (.int ((mI m 694 (Int32.toNatClampNeg a0)) - 1))] [] (mSetI (mSetI m 668 31 a0) 668 24 (mI m 690 (Int32.toNatClampNeg a0))) K) ∧ (a0 = 0 → K (.inl none) (mSetI m 668 29 2)))) : V m12_fail 0 [some (.ref 668), some (.int a0), none] [] m K := by
  refine r_iload_n (y := m12_fail) dX12_fail_0 rfl rfl ?_
  refine r_if_ne (y := m12_fail) (tgt := 10) dX12_fail_1 (by decide) (fun hc1 => ?_) (fun hc1 => ?_)
  · have h := h.1 hc1
    refine r_aload_n (y := m12_fail) dX12_fail_10 rfl rfl ?_
    refine r_iload_n (y := m12_fail) dX12_fail_11 rfl rfl ?_
    refine p_X12_251 (y := m12_fail) rfl dX12_fail_12 hm ?_
    refine r_aload_n (y := m12_fail) dX12_fail_15 rfl rfl ?_
    refine r_aload_n (y := m12_fail) dX12_fail_16 rfl rfl ?_
    refine g_X12_74 (y := m12_fail) rfl dX12_fail_17 (St.i hm) ?_
    refine r_iload_n (y := m12_fail) dX12_fail_20 rfl rfl ?_
    obtain ⟨hb2, h⟩ := h
    refine r_iald (y := m12_fail) (n := 110) dX12_fail_21 (sa_690 (St.i hm)) hb2 ?_
    refine V.top (b := (mI m 690 (Int32.toNatClampNeg a0))) (by first | rfl | simp [mI_set, mI_setR]) ?_
    refine p_X12_239 (y := m12_fail) rfl dX12_fail_22 (St.i hm) ?_
    refine r_aload_n (y := m12_fail) dX12_fail_25 rfl rfl ?_
    refine g_X12_86 (y := m12_fail) rfl dX12_fail_26 (St.i (St.i hm)) ?_
    refine r_iload_n (y := m12_fail) dX12_fail_29 rfl rfl ?_
    obtain ⟨hb3, h⟩ := h
    refine r_iald (y := m12_fail) (n := 110) dX12_fail_30 (sa_694 (St.i (St.i hm))) hb3 ?_
    refine V.top (b := (mI m 694 (Int32.toNatClampNeg a0))) (by first | rfl | simp [mI_set, mI_setR]) ?_
    refine r_iconst (y := m12_fail) (v := 1) dX12_fail_31 (by decide) ?_
    refine r_isub (y := m12_fail) dX12_fail_32 ?_
    refine r_istore_n (y := m12_fail) (L' := [some (.ref 668), some (.int a0), some (.int ((mI m 694 (Int32.toNatClampNeg a0)) - 1))]) dX12_fail_33 rfl (Nat.le_of_ble_eq_true rfl) rfl ?_
    exact h
  · have h := h.2 hc1
    refine r_aload_n (y := m12_fail) dX12_fail_4 rfl rfl ?_
    refine r_iconst (y := m12_fail) (v := 2) dX12_fail_5 (by decide) ?_
    refine p_X12_245 (y := m12_fail) rfl dX12_fail_6 hm ?_
    exact r_ret (y := m12_fail) dX12_fail_9 rfl h
set_option maxHeartbeats 4000000 in
set_option maxRecDepth 100000 in
theorem u12_fail_34 {m : Mm} {K : Option Value ⊕ String → Mm → Prop} (hm : St m) {v1 : Int32} {v2 : Int32}  (h : ((v2 < 0 → V m12_fail 71 [some (.ref 668), some (.int v1), some (.int v2)] [] m K) ∧ (¬ v2 < 0 → vp_in ((41 * v1) + v2) 4510 ∧ vp_in ((41 * v1) + v2) 4510 ∧ ((¬ ((mI m 695 (Int32.toNatClampNeg ((41 * v1) + v2))) + 1) = (mI m 696 (Int32.toNatClampNeg ((41 * v1) + v2))) → V m12_fail 71 [some (.ref 668), some (.int v1), some (.int v2)] [] m K) ∧ (((mI m 695 (Int32.toNatClampNeg ((41 * v1) + v2))) + 1) = (mI m 696 (Int32.toNatClampNeg ((41 * v1) + v2))) → V m12_fail 34 [some (.ref 668), some (.int v1), some (.int (v2 + (-1)))] [] m K))))) : V m12_fail 34 [some (.ref 668), some (.int v1), some (.int v2)] [] m K := by
  refine r_iload_n (y := m12_fail) dX12_fail_34 rfl rfl ?_
  refine r_if_lt (y := m12_fail) (tgt := 71) dX12_fail_35 (by decide) (fun hc1 => ?_) (fun hc1 => ?_)
  · have h := h.1 hc1
    exact h
  · have h := h.2 hc1
    refine r_aload_n (y := m12_fail) dX12_fail_38 rfl rfl ?_
    refine g_X12_89 (y := m12_fail) rfl dX12_fail_39 hm ?_
    refine r_bipush (y := m12_fail) (v := 41) dX12_fail_42 (by decide) ?_
    refine r_iload_n (y := m12_fail) dX12_fail_44 rfl rfl ?_
    refine r_imul (y := m12_fail) dX12_fail_45 ?_
    refine r_iload_n (y := m12_fail) dX12_fail_46 rfl rfl ?_
    refine r_iadd (y := m12_fail) dX12_fail_47 ?_
    obtain ⟨hb2, h⟩ := h
    refine r_iald (y := m12_fail) (n := 4510) dX12_fail_48 (sa_695 hm) hb2 ?_
    refine r_iconst (y := m12_fail) (v := 1) dX12_fail_49 (by decide) ?_
    refine r_iadd (y := m12_fail) dX12_fail_50 ?_
    refine r_aload_n (y := m12_fail) dX12_fail_51 rfl rfl ?_
    refine g_X12_92 (y := m12_fail) rfl dX12_fail_52 hm ?_
    refine r_bipush (y := m12_fail) (v := 41) dX12_fail_55 (by decide) ?_
    refine r_iload_n (y := m12_fail) dX12_fail_57 rfl rfl ?_
    refine r_imul (y := m12_fail) dX12_fail_58 ?_
    refine r_iload_n (y := m12_fail) dX12_fail_59 rfl rfl ?_
    refine r_iadd (y := m12_fail) dX12_fail_60 ?_
    obtain ⟨hb3, h⟩ := h
    refine r_iald (y := m12_fail) (n := 4510) dX12_fail_61 (sa_696 hm) hb3 ?_
    refine r_icmp_ne (y := m12_fail) (tgt := 71) dX12_fail_62 (by decide) (fun hc4 => ?_) (fun hc4 => ?_)
    · have h := h.1 hc4
      exact h
    · have h := h.2 hc4
      refine r_iinc (y := m12_fail) (v := (v2 + (-1))) (L' := [some (.ref 668), some (.int v1), some (.int (v2 + (-1)))]) dX12_fail_65 rfl (by rfl) rfl ?_
      refine r_goto (y := m12_fail) (tgt := 34) dX12_fail_68 (by decide) ?_
      exact h
set_option maxHeartbeats 4000000 in
set_option maxRecDepth 100000 in
theorem u12_fail_71 {m : Mm} {K : Option Value ⊕ String → Mm → Prop} (hm : St m) {v1 : Int32} {v2 : Int32}  (h : ((v2 < 0 → vp_in v1 110 ∧ C m12_becomeData [(.ref 668), (.int (mI m 691 (Int32.toNatClampNeg v1))), (.int 0)] m (fun o m3 => o = .inl none ∧ St m3 ∧ V m12_fail 127 [some (.ref 668), some (.int v1), some (.int v2)] [] (mSetI m3 668 31 ((mI m3 668 31) - 1)) K)) ∧ (¬ v2 < 0 → vp_in ((41 * v1) + v2) 4510 ∧ vp_in ((41 * v1) + v2) 4510 ∧ vp_in v1 110 ∧ C m12_attempt [(.ref 668)] (mSetI (mSetI m 695 (Int32.toNatClampNeg ((41 * v1) + v2)) ((mI m 695 (Int32.toNatClampNeg ((41 * v1) + v2))) + 1)) 693 (Int32.toNatClampNeg v1) (v2 + 1)) (fun o m8 => o = .inl none ∧ St m8 ∧ V m12_fail 127 [some (.ref 668), some (.int v1), some (.int v2)] [] m8 K)))) : V m12_fail 71 [some (.ref 668), some (.int v1), some (.int v2)] [] m K := by
  refine r_iload_n (y := m12_fail) dX12_fail_71 rfl rfl ?_
  refine r_if_lt (y := m12_fail) (tgt := 106) dX12_fail_72 (by decide) (fun hc1 => ?_) (fun hc1 => ?_)
  · have h := h.1 hc1
    refine r_aload_n (y := m12_fail) dX12_fail_106 rfl rfl ?_
    refine r_aload_n (y := m12_fail) dX12_fail_107 rfl rfl ?_
    refine g_X12_77 (y := m12_fail) rfl dX12_fail_108 hm ?_
    refine r_iload_n (y := m12_fail) dX12_fail_111 rfl rfl ?_
    obtain ⟨hb2, h⟩ := h
    refine r_iald (y := m12_fail) (n := 110) dX12_fail_112 (sa_691 hm) hb2 ?_
    refine r_iconst (y := m12_fail) (v := 0) dX12_fail_113 (by decide) ?_
    refine r_callV (y := m12_fail) (As := [(.int (mI m 691 (Int32.toNatClampNeg v1))), (.int 0)]) (b := 668) (ci := 12) dX12_fail_114 rfl k12_becomeData lm_X12_267 rfl ⟨by decide, by decide⟩ (so_668 hm) (by decide) rfl (Nat.le_of_ble_eq_true rfl) (C.mono h ?_)
    rintro _ m3 ⟨rfl, hm4, h⟩
    refine ⟨none, rfl, ?_⟩
    refine r_aload_n (y := m12_fail) dX12_fail_117 rfl rfl ?_
    refine r_dup_r (y := m12_fail) dX12_fail_118 ?_
    refine g_X12_251 (y := m12_fail) rfl dX12_fail_119 hm4 ?_
    refine r_iconst (y := m12_fail) (v := 1) dX12_fail_122 (by decide) ?_
    refine r_isub (y := m12_fail) dX12_fail_123 ?_
    refine p_X12_251 (y := m12_fail) rfl dX12_fail_124 hm4 ?_
    exact h
  · have h := h.2 hc1
    refine r_aload_n (y := m12_fail) dX12_fail_75 rfl rfl ?_
    refine g_X12_89 (y := m12_fail) rfl dX12_fail_76 hm ?_
    refine r_bipush (y := m12_fail) (v := 41) dX12_fail_79 (by decide) ?_
    refine r_iload_n (y := m12_fail) dX12_fail_81 rfl rfl ?_
    refine r_imul (y := m12_fail) dX12_fail_82 ?_
    refine r_iload_n (y := m12_fail) dX12_fail_83 rfl rfl ?_
    refine r_iadd (y := m12_fail) dX12_fail_84 ?_
    refine r_dup2 (y := m12_fail) dX12_fail_85 ?_
    obtain ⟨hb5, h⟩ := h
    refine r_iald (y := m12_fail) (n := 4510) dX12_fail_86 (sa_695 hm) hb5 ?_
    refine r_iconst (y := m12_fail) (v := 1) dX12_fail_87 (by decide) ?_
    refine r_iadd (y := m12_fail) dX12_fail_88 ?_
    obtain ⟨hb6, h⟩ := h
    refine r_iast (y := m12_fail) (n := 4510) dX12_fail_89 (sa_695 hm) hb6 ?_
    refine r_aload_n (y := m12_fail) dX12_fail_90 rfl rfl ?_
    refine g_X12_83 (y := m12_fail) rfl dX12_fail_91 (St.i hm) ?_
    refine r_iload_n (y := m12_fail) dX12_fail_94 rfl rfl ?_
    refine r_iload_n (y := m12_fail) dX12_fail_95 rfl rfl ?_
    refine r_iconst (y := m12_fail) (v := 1) dX12_fail_96 (by decide) ?_
    refine r_iadd (y := m12_fail) dX12_fail_97 ?_
    obtain ⟨hb7, h⟩ := h
    refine r_iast (y := m12_fail) (n := 110) dX12_fail_98 (sa_693 (St.i hm)) hb7 ?_
    refine r_aload_n (y := m12_fail) dX12_fail_99 rfl rfl ?_
    refine r_callV (y := m12_fail) (As := []) (b := 668) (ci := 12) dX12_fail_100 rfl k12_attempt lm_X12_264 rfl ⟨by decide, by decide⟩ (so_668 (St.i (St.i hm))) (by decide) rfl (Nat.le_of_ble_eq_true rfl) (C.mono h ?_)
    rintro _ m8 ⟨rfl, hm9, h⟩
    refine ⟨none, rfl, ?_⟩
    refine r_goto (y := m12_fail) (tgt := 127) dX12_fail_103 (by decide) ?_
    exact h
set_option maxHeartbeats 4000000 in
set_option maxRecDepth 100000 in
theorem u12_fail_127 {m : Mm} {K : Option Value ⊕ String → Mm → Prop} (hm : St m) {v1 : Int32} {v2 : Int32}  (h : K (.inl none) m) : V m12_fail 127 [some (.ref 668), some (.int v1), some (.int v2)] [] m K := by
  exact r_ret (y := m12_fail) dX12_fail_127 rfl h
set_option maxHeartbeats 4000000 in
set_option maxRecDepth 100000 in
theorem u12_force {m : Mm} {K : Option Value ⊕ String → Mm → Prop} (hm : St m) {a0 : Int32}  (h : C m12_root [(.ref 668), (.int a0)] m (fun o m1 => ∃ x3 : Int32, o = .inl (some (.int x3)) ∧ St m1 ∧ vp_in x3 6000 ∧ ((¬ (mI m1 677 (Int32.toNatClampNeg x3)) = 2 → vp_in x3 6000 ∧ ((¬ (mI m1 677 (Int32.toNatClampNeg x3)) = 3 → vp_in x3 6000 ∧ (((mI m1 677 (Int32.toNatClampNeg x3)) = 4 → V m12_force 113 [some (.ref 668), some (.int a0), some (.int x3), none, none] [] m1 K) ∧ (¬ (mI m1 677 (Int32.toNatClampNeg x3)) = 4 → vp_in x3 6000 ∧ ((¬ (mI m1 677 (Int32.toNatClampNeg x3)) = 5 → vp_in x3 6000 ∧ ((¬ (mI m1 677 (Int32.toNatClampNeg x3)) = 6 → V m12_force 182 [some (.ref 668), some (.int a0), some (.int x3), none, none] [] m1 K) ∧ ((mI m1 677 (Int32.toNatClampNeg x3)) = 6 → C m12_beginSome [(.ref 668), (.int x3)] m1 (fun o m14 => o = .inl none ∧ St m14 ∧ V m12_force 182 [some (.ref 668), some (.int a0), some (.int x3), none, none] [] m14 K)))) ∧ ((mI m1 677 (Int32.toNatClampNeg x3)) = 5 → V m12_force 113 [some (.ref 668), some (.int a0), some (.int x3), none, none] [] m1 K))))) ∧ ((mI m1 677 (Int32.toNatClampNeg x3)) = 3 → vp_in x3 6000 ∧ C m12_decide [(.ref 668), (.int (mI m1 681 (Int32.toNatClampNeg x3))), (.int 2)] m1 (fun o m17 => ∃ x19 : Int32, o = .inl (some (.int x19)) ∧ St m17 ∧ ((¬ (mI m17 668 29) = 0 → V m12_force 90 [some (.ref 668), some (.int a0), some (.int x3), some (.int x19), none] [] m17 K) ∧ ((mI m17 668 29) = 0 → ((¬ x19 = 0 → vp_in x3 6000 ∧ V m12_force 72 [some (.ref 668), some (.int a0), some (.int x3), some (.int x19), none] [(.int (mI m17 680 (Int32.toNatClampNeg x3)))] m17 K) ∧ (x19 = 0 → vp_in x3 6000 ∧ V m12_force 72 [some (.ref 668), some (.int a0), some (.int x3), some (.int x19), none] [(.int (mI m17 679 (Int32.toNatClampNeg x3)))] m17 K)))))))) ∧ ((mI m1 677 (Int32.toNatClampNeg x3)) = 2 → C m12_call_ [(.ref 668), (.int x3)] m1 (fun o m24 => o = .inl none ∧ St m24 ∧ V m12_force 182 [some (.ref 668), some (.int a0), some (.int x3), none, none] [] m24 K))))) : V m12_force 0 [some (.ref 668), some (.int a0), none, none, none] [] m K := by
  refine r_aload_n (y := m12_force) dX12_force_0 rfl rfl ?_
  refine r_iload_n (y := m12_force) dX12_force_1 rfl rfl ?_
  refine r_callV (y := m12_force) (As := [(.int a0)]) (b := 668) (ci := 12) dX12_force_2 rfl k12_root lm_X12_280 rfl ⟨by decide, by decide⟩ (so_668 hm) (by decide) rfl (Nat.le_of_ble_eq_true rfl) (C.mono h ?_)
  rintro _ m1 ⟨x3, rfl, hm2, h⟩
  refine ⟨_, rfl, ?_⟩
  refine r_istore_n (y := m12_force) (L' := [some (.ref 668), some (.int a0), some (.int x3), none, none]) dX12_force_5 rfl (Nat.le_of_ble_eq_true rfl) rfl ?_
  refine r_aload_n (y := m12_force) dX12_force_6 rfl rfl ?_
  refine g_X12_35 (y := m12_force) rfl dX12_force_7 hm2 ?_
  refine r_iload_n (y := m12_force) dX12_force_10 rfl rfl ?_
  obtain ⟨hb4, h⟩ := h
  refine r_iald (y := m12_force) (n := 6000) dX12_force_11 (sa_677 hm2) hb4 ?_
  refine r_iconst (y := m12_force) (v := 2) dX12_force_12 (by decide) ?_
  refine r_icmp_ne (y := m12_force) (tgt := 24) dX12_force_13 (by decide) (fun hc5 => ?_) (fun hc5 => ?_)
  · have h := h.1 hc5
    refine r_aload_n (y := m12_force) dX12_force_24 rfl rfl ?_
    refine g_X12_35 (y := m12_force) rfl dX12_force_25 hm2 ?_
    refine r_iload_n (y := m12_force) dX12_force_28 rfl rfl ?_
    obtain ⟨hb6, h⟩ := h
    refine r_iald (y := m12_force) (n := 6000) dX12_force_29 (sa_677 hm2) hb6 ?_
    refine r_iconst (y := m12_force) (v := 3) dX12_force_30 (by decide) ?_
    refine r_icmp_ne (y := m12_force) (tgt := 93) dX12_force_31 (by decide) (fun hc7 => ?_) (fun hc7 => ?_)
    · have h := h.1 hc7
      refine r_aload_n (y := m12_force) dX12_force_93 rfl rfl ?_
      refine g_X12_35 (y := m12_force) rfl dX12_force_94 hm2 ?_
      refine r_iload_n (y := m12_force) dX12_force_97 rfl rfl ?_
      obtain ⟨hb8, h⟩ := h
      refine r_iald (y := m12_force) (n := 6000) dX12_force_98 (sa_677 hm2) hb8 ?_
      refine r_iconst (y := m12_force) (v := 4) dX12_force_99 (by decide) ?_
      refine r_icmp_eq (y := m12_force) (tgt := 113) dX12_force_100 (by decide) (fun hc9 => ?_) (fun hc9 => ?_)
      · have h := h.1 hc9
        exact h
      · have h := h.2 hc9
        refine r_aload_n (y := m12_force) dX12_force_103 rfl rfl ?_
        refine g_X12_35 (y := m12_force) rfl dX12_force_104 hm2 ?_
        refine r_iload_n (y := m12_force) dX12_force_107 rfl rfl ?_
        obtain ⟨hb10, h⟩ := h
        refine r_iald (y := m12_force) (n := 6000) dX12_force_108 (sa_677 hm2) hb10 ?_
        refine r_iconst (y := m12_force) (v := 5) dX12_force_109 (by decide) ?_
        refine r_icmp_ne (y := m12_force) (tgt := 166) dX12_force_110 (by decide) (fun hc11 => ?_) (fun hc11 => ?_)
        · have h := h.1 hc11
          refine r_aload_n (y := m12_force) dX12_force_166 rfl rfl ?_
          refine g_X12_35 (y := m12_force) rfl dX12_force_167 hm2 ?_
          refine r_iload_n (y := m12_force) dX12_force_170 rfl rfl ?_
          obtain ⟨hb12, h⟩ := h
          refine r_iald (y := m12_force) (n := 6000) dX12_force_171 (sa_677 hm2) hb12 ?_
          refine r_bipush (y := m12_force) (v := 6) dX12_force_172 (by decide) ?_
          refine r_icmp_ne (y := m12_force) (tgt := 182) dX12_force_174 (by decide) (fun hc13 => ?_) (fun hc13 => ?_)
          · have h := h.1 hc13
            exact h
          · have h := h.2 hc13
            refine r_aload_n (y := m12_force) dX12_force_177 rfl rfl ?_
            refine r_iload_n (y := m12_force) dX12_force_178 rfl rfl ?_
            refine r_callV (y := m12_force) (As := [(.int x3)]) (b := 668) (ci := 12) dX12_force_179 rfl k12_beginSome lm_X12_289 rfl ⟨by decide, by decide⟩ (so_668 hm2) (by decide) rfl (Nat.le_of_ble_eq_true rfl) (C.mono h ?_)
            rintro _ m14 ⟨rfl, hm15, h⟩
            refine ⟨none, rfl, ?_⟩
            exact h
        · have h := h.2 hc11
          exact h
    · have h := h.2 hc7
      refine r_aload_n (y := m12_force) dX12_force_34 rfl rfl ?_
      refine r_aload_n (y := m12_force) dX12_force_35 rfl rfl ?_
      refine g_X12_47 (y := m12_force) rfl dX12_force_36 hm2 ?_
      refine r_iload_n (y := m12_force) dX12_force_39 rfl rfl ?_
      obtain ⟨hb16, h⟩ := h
      refine r_iald (y := m12_force) (n := 6000) dX12_force_40 (sa_681 hm2) hb16 ?_
      refine r_iconst (y := m12_force) (v := 2) dX12_force_41 (by decide) ?_
      refine r_callV (y := m12_force) (As := [(.int (mI m1 681 (Int32.toNatClampNeg x3))), (.int 2)]) (b := 668) (ci := 12) dX12_force_42 rfl k12_decide lm_X12_273 rfl ⟨by decide, by decide⟩ (so_668 hm2) (by decide) rfl (Nat.le_of_ble_eq_true rfl) (C.mono h ?_)
      rintro _ m17 ⟨x19, rfl, hm18, h⟩
      refine ⟨_, rfl, ?_⟩
      refine r_istore_n (y := m12_force) (L' := [some (.ref 668), some (.int a0), some (.int x3), some (.int x19), none]) dX12_force_45 rfl (Nat.le_of_ble_eq_true rfl) rfl ?_
      refine r_aload_n (y := m12_force) dX12_force_46 rfl rfl ?_
      refine g_X12_245 (y := m12_force) rfl dX12_force_47 hm18 ?_
      refine r_if_ne (y := m12_force) (tgt := 90) dX12_force_50 (by decide) (fun hc20 => ?_) (fun hc20 => ?_)
      · have h := h.1 hc20
        exact h
      · have h := h.2 hc20
        refine r_iload_n (y := m12_force) dX12_force_53 rfl rfl ?_
        refine r_if_ne (y := m12_force) (tgt := 66) dX12_force_54 (by decide) (fun hc21 => ?_) (fun hc21 => ?_)
        · have h := h.1 hc21
          refine r_aload_n (y := m12_force) dX12_force_66 rfl rfl ?_
          refine g_X12_44 (y := m12_force) rfl dX12_force_67 hm18 ?_
          refine r_iload_n (y := m12_force) dX12_force_70 rfl rfl ?_
          obtain ⟨hb22, h⟩ := h
          refine r_iald (y := m12_force) (n := 6000) dX12_force_71 (sa_680 hm18) hb22 ?_
          exact h
        · have h := h.2 hc21
          refine r_aload_n (y := m12_force) dX12_force_57 rfl rfl ?_
          refine g_X12_41 (y := m12_force) rfl dX12_force_58 hm18 ?_
          refine r_iload_n (y := m12_force) dX12_force_61 rfl rfl ?_
          obtain ⟨hb23, h⟩ := h
          refine r_iald (y := m12_force) (n := 6000) dX12_force_62 (sa_679 hm18) hb23 ?_
          refine r_goto (y := m12_force) (tgt := 72) dX12_force_63 (by decide) ?_
          exact h
  · have h := h.2 hc5
    refine r_aload_n (y := m12_force) dX12_force_16 rfl rfl ?_
    refine r_iload_n (y := m12_force) dX12_force_17 rfl rfl ?_
    refine r_callV (y := m12_force) (As := [(.int x3)]) (b := 668) (ci := 12) dX12_force_18 rfl k12_call_ lm_X12_283 rfl ⟨by decide, by decide⟩ (so_668 hm2) (by decide) rfl (Nat.le_of_ble_eq_true rfl) (C.mono h ?_)
    rintro _ m24 ⟨rfl, hm25, h⟩
    refine ⟨none, rfl, ?_⟩
    refine r_goto (y := m12_force) (tgt := 182) dX12_force_21 (by decide) ?_
    exact h
set_option maxHeartbeats 4000000 in
set_option maxRecDepth 100000 in
theorem u12_force_113 {m : Mm} {K : Option Value ⊕ String → Mm → Prop} (hm : St m) {v1 : Int32} {v2 : Int32}  (h : vp_in v2 6000 ∧ ((¬ (mI m 677 (Int32.toNatClampNeg v2)) = 4 → V m12_force 131 [some (.ref 668), some (.int v1), some (.int v2), none, none] [(.int 8), (.ref 668)] m K) ∧ ((mI m 677 (Int32.toNatClampNeg v2)) = 4 → V m12_force 131 [some (.ref 668), some (.int v1), some (.int v2), none, none] [(.int 7), (.ref 668)] m K))) : V m12_force 113 [some (.ref 668), some (.int v1), some (.int v2), none, none] [] m K := by
  refine r_aload_n (y := m12_force) dX12_force_113 rfl rfl ?_
  refine r_aload_n (y := m12_force) dX12_force_114 rfl rfl ?_
  refine g_X12_35 (y := m12_force) rfl dX12_force_115 hm ?_
  refine r_iload_n (y := m12_force) dX12_force_118 rfl rfl ?_
  obtain ⟨hb1, h⟩ := h
  refine r_iald (y := m12_force) (n := 6000) dX12_force_119 (sa_677 hm) hb1 ?_
  refine r_iconst (y := m12_force) (v := 4) dX12_force_120 (by decide) ?_
  refine r_icmp_ne (y := m12_force) (tgt := 129) dX12_force_121 (by decide) (fun hc2 => ?_) (fun hc2 => ?_)
  · have h := h.1 hc2
    refine r_bipush (y := m12_force) (v := 8) dX12_force_129 (by decide) ?_
    exact h
  · have h := h.2 hc2
    refine r_bipush (y := m12_force) (v := 7) dX12_force_124 (by decide) ?_
    refine r_goto (y := m12_force) (tgt := 131) dX12_force_126 (by decide) ?_
    exact h
set_option maxHeartbeats 4000000 in
set_option maxRecDepth 100000 in
theorem u12_force_182 {m : Mm} {K : Option Value ⊕ String → Mm → Prop} (hm : St m) {v1 : Int32} {v2 : Int32}  (h : K (.inl none) m) : V m12_force 182 [some (.ref 668), some (.int v1), some (.int v2), none, none] [] m K := by
  exact r_ret (y := m12_force) dX12_force_182 rfl h
set_option maxHeartbeats 4000000 in
set_option maxRecDepth 100000 in
theorem u12_force_90 {m : Mm} {K : Option Value ⊕ String → Mm → Prop} (hm : St m) {v1 : Int32} {v2 : Int32} {v3 : Int32}  (h : V m12_force 182 [some (.ref 668), some (.int v1), some (.int v2), some (.int v3), none] [] m K) : V m12_force 90 [some (.ref 668), some (.int v1), some (.int v2), some (.int v3), none] [] m K := by
  refine r_goto (y := m12_force) (tgt := 182) dX12_force_90 (by decide) ?_
  exact h
set_option maxHeartbeats 4000000 in
set_option maxRecDepth 100000 in
theorem u12_force_72 {m : Mm} {K : Option Value ⊕ String → Mm → Prop} (hm : St m) {v1 : Int32} {v2 : Int32} {v3 : Int32} {s0 : Int32}  (h : C m12_become [(.ref 668), (.int v2), (.int s0)] m (fun o m1 => o = .inl none ∧ St m1 ∧ C m12_task [(.ref 668), (.int 0), (.int s0), (.int 0), (.int 0)] m1 (fun o m3 => o = .inl none ∧ St m3 ∧ V m12_force 90 [some (.ref 668), some (.int v1), some (.int v2), some (.int v3), some (.int s0)] [] m3 K))) : V m12_force 72 [some (.ref 668), some (.int v1), some (.int v2), some (.int v3), none] [(.int s0)] m K := by
  refine r_istore (y := m12_force) (L' := [some (.ref 668), some (.int v1), some (.int v2), some (.int v3), some (.int s0)]) dX12_force_72 (Nat.le_of_ble_eq_true rfl) rfl ?_
  refine r_aload_n (y := m12_force) dX12_force_74 rfl rfl ?_
  refine r_iload_n (y := m12_force) dX12_force_75 rfl rfl ?_
  refine r_iload (y := m12_force) dX12_force_76 rfl ?_
  refine r_callV (y := m12_force) (As := [(.int v2), (.int s0)]) (b := 668) (ci := 12) dX12_force_78 rfl k12_become lm_X12_286 rfl ⟨by decide, by decide⟩ (so_668 hm) (by decide) rfl (Nat.le_of_ble_eq_true rfl) (C.mono h ?_)
  rintro _ m1 ⟨rfl, hm2, h⟩
  refine ⟨none, rfl, ?_⟩
  refine r_aload_n (y := m12_force) dX12_force_81 rfl rfl ?_
  refine r_iconst (y := m12_force) (v := 0) dX12_force_82 (by decide) ?_
  refine r_iload (y := m12_force) dX12_force_83 rfl ?_
  refine r_iconst (y := m12_force) (v := 0) dX12_force_85 (by decide) ?_
  refine r_iconst (y := m12_force) (v := 0) dX12_force_86 (by decide) ?_
  refine r_callV (y := m12_force) (As := [(.int 0), (.int s0), (.int 0), (.int 0)]) (b := 668) (ci := 12) dX12_force_87 rfl k12_task lm_X12_260 rfl ⟨by decide, by decide⟩ (so_668 hm2) (by decide) rfl (Nat.le_of_ble_eq_true rfl) (C.mono h ?_)
  rintro _ m3 ⟨rfl, hm4, h⟩
  refine ⟨none, rfl, ?_⟩
  exact h
set_option maxHeartbeats 4000000 in
set_option maxRecDepth 100000 in
theorem u12_force_131 {m : Mm} {K : Option Value ⊕ String → Mm → Prop} (hm : St m) {v1 : Int32} {v2 : Int32} {s1 : Int32}  (h : C m12_task [(.ref 668), (.int s1), (.int v2), (.int 0), (.int 0)] m (fun o m1 => o = .inl none ∧ St m1 ∧ vp_in v2 6000 ∧ C m12_task [(.ref 668), (.int 1), (.int (mI m1 680 (Int32.toNatClampNeg v2))), (.int 0), (.int 0)] m1 (fun o m4 => o = .inl none ∧ St m4 ∧ vp_in v2 6000 ∧ C m12_task [(.ref 668), (.int 1), (.int (mI m4 679 (Int32.toNatClampNeg v2))), (.int 0), (.int 0)] m4 (fun o m7 => o = .inl none ∧ St m7 ∧ V m12_force 182 [some (.ref 668), some (.int v1), some (.int v2), none, none] [] m7 K)))) : V m12_force 131 [some (.ref 668), some (.int v1), some (.int v2), none, none] [(.int s1), (.ref 668)] m K := by
  refine r_iload_n (y := m12_force) dX12_force_131 rfl rfl ?_
  refine r_iconst (y := m12_force) (v := 0) dX12_force_132 (by decide) ?_
  refine r_iconst (y := m12_force) (v := 0) dX12_force_133 (by decide) ?_
  refine r_callV (y := m12_force) (As := [(.int s1), (.int v2), (.int 0), (.int 0)]) (b := 668) (ci := 12) dX12_force_134 rfl k12_task lm_X12_260 rfl ⟨by decide, by decide⟩ (so_668 hm) (by decide) rfl (Nat.le_of_ble_eq_true rfl) (C.mono h ?_)
  rintro _ m1 ⟨rfl, hm2, h⟩
  refine ⟨none, rfl, ?_⟩
  refine r_aload_n (y := m12_force) dX12_force_137 rfl rfl ?_
  refine r_iconst (y := m12_force) (v := 1) dX12_force_138 (by decide) ?_
  refine r_aload_n (y := m12_force) dX12_force_139 rfl rfl ?_
  refine g_X12_44 (y := m12_force) rfl dX12_force_140 hm2 ?_
  refine r_iload_n (y := m12_force) dX12_force_143 rfl rfl ?_
  obtain ⟨hb3, h⟩ := h
  refine r_iald (y := m12_force) (n := 6000) dX12_force_144 (sa_680 hm2) hb3 ?_
  refine r_iconst (y := m12_force) (v := 0) dX12_force_145 (by decide) ?_
  refine r_iconst (y := m12_force) (v := 0) dX12_force_146 (by decide) ?_
  refine r_callV (y := m12_force) (As := [(.int 1), (.int (mI m1 680 (Int32.toNatClampNeg v2))), (.int 0), (.int 0)]) (b := 668) (ci := 12) dX12_force_147 rfl k12_task lm_X12_260 rfl ⟨by decide, by decide⟩ (so_668 hm2) (by decide) rfl (Nat.le_of_ble_eq_true rfl) (C.mono h ?_)
  rintro _ m4 ⟨rfl, hm5, h⟩
  refine ⟨none, rfl, ?_⟩
  refine r_aload_n (y := m12_force) dX12_force_150 rfl rfl ?_
  refine r_iconst (y := m12_force) (v := 1) dX12_force_151 (by decide) ?_
  refine r_aload_n (y := m12_force) dX12_force_152 rfl rfl ?_
  refine g_X12_41 (y := m12_force) rfl dX12_force_153 hm5 ?_
  refine r_iload_n (y := m12_force) dX12_force_156 rfl rfl ?_
  obtain ⟨hb6, h⟩ := h
  refine r_iald (y := m12_force) (n := 6000) dX12_force_157 (sa_679 hm5) hb6 ?_
  refine r_iconst (y := m12_force) (v := 0) dX12_force_158 (by decide) ?_
  refine r_iconst (y := m12_force) (v := 0) dX12_force_159 (by decide) ?_
  refine r_callV (y := m12_force) (As := [(.int 1), (.int (mI m4 679 (Int32.toNatClampNeg v2))), (.int 0), (.int 0)]) (b := 668) (ci := 12) dX12_force_160 rfl k12_task lm_X12_260 rfl ⟨by decide, by decide⟩ (so_668 hm5) (by decide) rfl (Nat.le_of_ble_eq_true rfl) (C.mono h ?_)
  rintro _ m7 ⟨rfl, hm8, h⟩
  refine ⟨none, rfl, ?_⟩
  refine r_goto (y := m12_force) (tgt := 182) dX12_force_163 (by decide) ?_
  exact h
set_option maxHeartbeats 4000000 in
set_option maxRecDepth 100000 in
theorem u3_startCall {m : Mm} {K : Option Value ⊕ String → Mm → Prop} (hm : St m) {a0 : Int32}  (h : vp_in a0 3500 ∧ vp_in a0 3500 ∧ C m5_rulesOf [(.ref 7), (.int (mI m 15 (Int32.toNatClampNeg a0)))] m (fun o m3 => ∃ x5 : Int32, o = .inl (some (.int x5)) ∧ St m3 ∧ ((¬ x5 = 0 → ((x5 ≤ 1 → V m3_startCall 58 [some (.ref 12), some (.int a0), some (.int (mI m 19 (Int32.toNatClampNeg a0))), some (.int (mI m 15 (Int32.toNatClampNeg a0))), some (.int x5), none, none] [(.int 0)] m3 K) ∧ (¬ x5 ≤ 1 → C m3_decide [(.ref 12), (.int (mI m 19 (Int32.toNatClampNeg a0))), (.int x5)] m3 (fun o m8 => ∃ x10 : Int32, o = .inl (some (.int x10)) ∧ St m8 ∧ V m3_startCall 58 [some (.ref 12), some (.int a0), some (.int (mI m 19 (Int32.toNatClampNeg a0))), some (.int (mI m 15 (Int32.toNatClampNeg a0))), some (.int x5), none, none] [(.int x10)] m8 K)))) ∧ (x5 = 0 → C m3_fail [(.ref 12), (.int (mI m 19 (Int32.toNatClampNeg a0)))] m3 (fun o m11 => o = .inl none ∧ St m11 ∧ K (.inl none) m11))))) : V m3_startCall 0 [some (.ref 12), some (.int a0), none, none, none, none, none] [] m K := by
  refine r_aload_n (y := m3_startCall) dX3_startCall_0 rfl rfl ?_
  refine g_X3_12 (y := m3_startCall) rfl dX3_startCall_1 hm ?_
  refine g_X3_141 (y := m3_startCall) rfl dX3_startCall_4 hm ?_
  refine r_iload_n (y := m3_startCall) dX3_startCall_7 rfl rfl ?_
  obtain ⟨hb1, h⟩ := h
  refine r_iald (y := m3_startCall) (n := 3500) dX3_startCall_8 (sa_19 hm) hb1 ?_
  refine r_istore_n (y := m3_startCall) (L' := [some (.ref 12), some (.int a0), some (.int (mI m 19 (Int32.toNatClampNeg a0))), none, none, none, none]) dX3_startCall_9 rfl (Nat.le_of_ble_eq_true rfl) rfl ?_
  refine r_aload_n (y := m3_startCall) dX3_startCall_10 rfl rfl ?_
  refine g_X3_12 (y := m3_startCall) rfl dX3_startCall_11 hm ?_
  refine g_X3_247 (y := m3_startCall) rfl dX3_startCall_14 hm ?_
  refine r_iload_n (y := m3_startCall) dX3_startCall_17 rfl rfl ?_
  obtain ⟨hb2, h⟩ := h
  refine r_iald (y := m3_startCall) (n := 3500) dX3_startCall_18 (sa_15 hm) hb2 ?_
  refine r_istore_n (y := m3_startCall) (L' := [some (.ref 12), some (.int a0), some (.int (mI m 19 (Int32.toNatClampNeg a0))), some (.int (mI m 15 (Int32.toNatClampNeg a0))), none, none, none]) dX3_startCall_19 rfl (Nat.le_of_ble_eq_true rfl) rfl ?_
  refine r_aload_n (y := m3_startCall) dX3_startCall_20 rfl rfl ?_
  refine g_X3_63 (y := m3_startCall) rfl dX3_startCall_21 hm ?_
  refine r_iload_n (y := m3_startCall) dX3_startCall_24 rfl rfl ?_
  refine r_callVN (y := m3_startCall) (As := [(.int (mI m 15 (Int32.toNatClampNeg a0)))]) (b := 7) (ci := 5) dX3_startCall_25 rfl k5_rulesOf lm_X3_258 rfl ⟨by decide, by decide⟩ (so_7 hm) (by decide) rfl (Nat.le_of_ble_eq_true rfl) (C.mono h ?_)
  rintro _ m3 ⟨x5, rfl, hm4, h⟩
  refine ⟨_, rfl, ?_⟩
  refine r_istore (y := m3_startCall) (L' := [some (.ref 12), some (.int a0), some (.int (mI m 19 (Int32.toNatClampNeg a0))), some (.int (mI m 15 (Int32.toNatClampNeg a0))), some (.int x5), none, none]) dX3_startCall_28 (Nat.le_of_ble_eq_true rfl) rfl ?_
  refine r_iload (y := m3_startCall) dX3_startCall_30 rfl ?_
  refine r_if_ne (y := m3_startCall) (tgt := 41) dX3_startCall_32 (by decide) (fun hc6 => ?_) (fun hc6 => ?_)
  · have h := h.1 hc6
    refine r_iload (y := m3_startCall) dX3_startCall_41 rfl ?_
    refine r_iconst (y := m3_startCall) (v := 1) dX3_startCall_43 (by decide) ?_
    refine r_icmp_le (y := m3_startCall) (tgt := 57) dX3_startCall_44 (by decide) (fun hc7 => ?_) (fun hc7 => ?_)
    · have h := h.1 hc7
      refine r_iconst (y := m3_startCall) (v := 0) dX3_startCall_57 (by decide) ?_
      exact h
    · have h := h.2 hc7
      refine r_aload_n (y := m3_startCall) dX3_startCall_47 rfl rfl ?_
      refine r_iload_n (y := m3_startCall) dX3_startCall_48 rfl rfl ?_
      refine r_iload (y := m3_startCall) dX3_startCall_49 rfl ?_
      refine r_callV (y := m3_startCall) (As := [(.int (mI m 19 (Int32.toNatClampNeg a0))), (.int x5)]) (b := 12) (ci := 3) dX3_startCall_51 rfl k3_decide lm_X3_251 rfl ⟨by decide, by decide⟩ (so_12 hm4) (by decide) rfl (Nat.le_of_ble_eq_true rfl) (C.mono h ?_)
      rintro _ m8 ⟨x10, rfl, hm9, h⟩
      refine ⟨_, rfl, ?_⟩
      refine r_goto (y := m3_startCall) (tgt := 58) dX3_startCall_54 (by decide) ?_
      exact h
  · have h := h.2 hc6
    refine r_aload_n (y := m3_startCall) dX3_startCall_35 rfl rfl ?_
    refine r_iload_n (y := m3_startCall) dX3_startCall_36 rfl rfl ?_
    refine r_callV (y := m3_startCall) (As := [(.int (mI m 19 (Int32.toNatClampNeg a0)))]) (b := 12) (ci := 3) dX3_startCall_37 rfl k3_fail lm_X3_154 rfl ⟨by decide, by decide⟩ (so_12 hm4) (by decide) rfl (Nat.le_of_ble_eq_true rfl) (C.mono h ?_)
    rintro _ m11 ⟨rfl, hm12, h⟩
    refine ⟨none, rfl, ?_⟩
    exact r_ret (y := m3_startCall) dX3_startCall_40 rfl h
set_option maxHeartbeats 4000000 in
set_option maxRecDepth 100000 in
theorem u3_startCall_58 {m : Mm} {K : Option Value ⊕ String → Mm → Prop} (hm : St m) {v1 : Int32} {v2 : Int32} {v3 : Int32} {v4 : Int32} {s0 : Int32}  (h : ((¬ s0 = (-1) → C m5_ruleOf [(.ref 7), (.int v3), (.int s0)] m (fun o m2 => ∃ z4 : Option Nat, o = .inl (some (va_rf z4)) ∧ St m2 ∧ (z4 = none → V m3_startCall 80 [some (.ref 12), some (.int v1), some (.int v2), some (.int v3), some (.int v4), some (.int s0), none] [.null] m2 K) ∧ (∀ q5 : Nat, z4 = some q5 → V m3_startCall 80 [some (.ref 12), some (.int v1), some (.int v2), some (.int v3), some (.int v4), some (.int s0), none] [(.ref q5)] m2 K))) ∧ (s0 = (-1) → V m3_startCall 80 [some (.ref 12), some (.int v1), some (.int v2), some (.int v3), some (.int v4), some (.int s0), none] [.null] m K))) : V m3_startCall 58 [some (.ref 12), some (.int v1), some (.int v2), some (.int v3), some (.int v4), none, none] [(.int s0)] m K := by
  refine r_istore (y := m3_startCall) (L' := [some (.ref 12), some (.int v1), some (.int v2), some (.int v3), some (.int v4), some (.int s0), none]) dX3_startCall_58 (Nat.le_of_ble_eq_true rfl) rfl ?_
  refine r_iload (y := m3_startCall) dX3_startCall_60 rfl ?_
  refine r_iconst (y := m3_startCall) (v := (-1)) dX3_startCall_62 (by decide) ?_
  refine r_icmp_ne (y := m3_startCall) (tgt := 70) dX3_startCall_63 (by decide) (fun hc1 => ?_) (fun hc1 => ?_)
  · have h := h.1 hc1
    refine r_aload_n (y := m3_startCall) dX3_startCall_70 rfl rfl ?_
    refine g_X3_63 (y := m3_startCall) rfl dX3_startCall_71 hm ?_
    refine r_iload_n (y := m3_startCall) dX3_startCall_74 rfl rfl ?_
    refine r_iload (y := m3_startCall) dX3_startCall_75 rfl ?_
    refine r_callVN (y := m3_startCall) (As := [(.int v3), (.int s0)]) (b := 7) (ci := 5) dX3_startCall_77 rfl k5_ruleOf lm_X3_263 rfl ⟨by decide, by decide⟩ (so_7 hm) (by decide) rfl (Nat.le_of_ble_eq_true rfl) (C.mono h ?_)
    rintro _ m2 ⟨z4, rfl, hm3, h⟩
    refine ⟨_, rfl, ?_⟩
    rcases z4 with _ | q5
    · have h := h.1 rfl
      exact h
    · have h := h.2 q5 rfl
      exact h
  · have h := h.2 hc1
    refine r_null (y := m3_startCall) dX3_startCall_66 ?_
    refine r_goto (y := m3_startCall) (tgt := 80) dX3_startCall_67 (by decide) ?_
    exact h
set_option maxHeartbeats 4000000 in
set_option maxRecDepth 100000 in
theorem u3_startCall_80 {m : Mm} {K : Option Value ⊕ String → Mm → Prop} (hm : St m) {v1 : Int32} {v2 : Int32} {v3 : Int32} {v4 : Int32} {v5 : Int32}  (h : V m3_startCall 94 [some (.ref 12), some (.int v1), some (.int v2), some (.int v3), some (.int v4), some (.int v5), some .null] [] m K) : V m3_startCall 80 [some (.ref 12), some (.int v1), some (.int v2), some (.int v3), some (.int v4), some (.int v5), none] [.null] m K := by
  refine r_astoreN (y := m3_startCall) (L' := [some (.ref 12), some (.int v1), some (.int v2), some (.int v3), some (.int v4), some (.int v5), some .null]) dX3_startCall_80 (Nat.le_of_ble_eq_true rfl) rfl ?_
  refine r_aloadN (y := m3_startCall) dX3_startCall_82 rfl ?_
  refine r_ifnullN (y := m3_startCall) (tgt := 94) dX3_startCall_84 (by decide) ?_
  exact h
set_option maxHeartbeats 4000000 in
set_option maxRecDepth 100000 in
theorem u3_startCall_94 {m : Mm} {K : Option Value ⊕ String → Mm → Prop} (hm : St m) {v1 : Int32} {v2 : Int32} {v3 : Int32} {v4 : Int32} {v5 : Int32}  (h : K (.inl none) m) : V m3_startCall 94 [some (.ref 12), some (.int v1), some (.int v2), some (.int v3), some (.int v4), some (.int v5), none] [] m K := by
  exact r_ret (y := m3_startCall) dX3_startCall_94 rfl h
set_option maxHeartbeats 4000000 in
set_option maxRecDepth 100000 in
theorem u8_make {m : Mm} {K : Option Value ⊕ String → Mm → Prop} (hm : St m) {e0 ne0 : Nat} {a1 : Int32} {a2 : Int32} (he0 : isExp m e0 ne0) (h : C m8_clear [(.ref 541)] m (fun o m1 => o = .inl none ∧ St m1 ∧ C m8_addRow [(.ref 541), (.int 0), (.int 0), (.int 0)] m1 (fun o m3 => o = .inl none ∧ St m3 ∧ V m8_make 17 [some (.ref 541), some (.ref e0), some (.int a1), some (.int a2), some (.int a2), some (.int 0), none, none, none] [] m3 K))) : V m8_make 0 [some (.ref 541), some (.ref e0), some (.int a1), some (.int a2), none, none, none, none, none] [] m K := by
  refine r_aload_n (y := m8_make) dX8_make_0 rfl rfl ?_
  refine r_callV (y := m8_make) (As := []) (b := 541) (ci := 8) dX8_make_1 rfl k8_clear lm_X8_51 rfl ⟨by decide, by decide⟩ (so_541 hm) (by decide) rfl (Nat.le_of_ble_eq_true rfl) (C.mono h ?_)
  rintro _ m1 ⟨rfl, hm2, h⟩
  refine ⟨none, rfl, ?_⟩
  refine r_aload_n (y := m8_make) dX8_make_4 rfl rfl ?_
  refine r_iconst (y := m8_make) (v := 0) dX8_make_5 (by decide) ?_
  refine r_iconst (y := m8_make) (v := 0) dX8_make_6 (by decide) ?_
  refine r_iconst (y := m8_make) (v := 0) dX8_make_7 (by decide) ?_
  refine r_callV (y := m8_make) (As := [(.int 0), (.int 0), (.int 0)]) (b := 541) (ci := 8) dX8_make_8 rfl k8_addRow lm_X8_54 rfl ⟨by decide, by decide⟩ (so_541 hm2) (by decide) rfl (Nat.le_of_ble_eq_true rfl) (C.mono h ?_)
  rintro _ m3 ⟨rfl, hm4, h⟩
  refine ⟨none, rfl, ?_⟩
  refine r_iload_n (y := m8_make) dX8_make_11 rfl rfl ?_
  refine r_istore (y := m8_make) (L' := [some (.ref 541), some (.ref e0), some (.int a1), some (.int a2), some (.int a2), none, none, none, none]) dX8_make_12 (Nat.le_of_ble_eq_true rfl) rfl ?_
  refine r_iconst (y := m8_make) (v := 0) dX8_make_14 (by decide) ?_
  refine r_istore (y := m8_make) (L' := [some (.ref 541), some (.ref e0), some (.int a1), some (.int a2), some (.int a2), some (.int 0), none, none, none]) dX8_make_15 (Nat.le_of_ble_eq_true rfl) rfl ?_
  exact h
set_option maxHeartbeats 4000000 in
set_option maxRecDepth 100000 in
theorem u8_make_17 {m : Mm} {K : Option Value ⊕ String → Mm → Prop} (hm : St m) {ee1 nn1 : Nat} {v2 : Int32} {v3 : Int32} {v4 : Int32} {v5 : Int32} (hee1 : isExp m ee1 nn1) (h : ((200 ≤ v5 → V m8_make 166 [some (.ref 541), some (.ref ee1), some (.int v2), some (.int v3), some (.int v4), some (.int v5), none, none, none] [] m K) ∧ (¬ 200 ≤ v5 → (((mI m 541 9) ≤ (mI m 541 8) → V m8_make 166 [some (.ref 541), some (.ref ee1), some (.int v2), some (.int v3), some (.int v4), some (.int v5), none, none, none] [] m K) ∧ (¬ (mI m 541 9) ≤ (mI m 541 8) → ((¬ v2 = 0 → V m8_make 55 [some (.ref 541), some (.ref ee1), some (.int v2), some (.int v3), some (.int v4), some (.int v5), none, none, none] [(.int 0)] m K) ∧ (v2 = 0 → V m8_make 55 [some (.ref 541), some (.ref ee1), some (.int v2), some (.int v3), some (.int v4), some (.int v5), none, none, none] [(.int (((mI m 541 9) - (mI m 541 8)) - 1))] m K))))))) : V m8_make 17 [some (.ref 541), some (.ref ee1), some (.int v2), some (.int v3), some (.int v4), some (.int v5), none, none, none] [] m K := by
  refine r_iload (y := m8_make) dX8_make_17 rfl ?_
  refine r_sipush (y := m8_make) (v := 200) dX8_make_19 (by decide) ?_
  refine r_icmp_ge (y := m8_make) (tgt := 166) dX8_make_22 (by decide) (fun hc1 => ?_) (fun hc1 => ?_)
  · have h := h.1 hc1
    exact h
  · have h := h.2 hc1
    refine r_aload_n (y := m8_make) dX8_make_25 rfl rfl ?_
    refine g_X8_37 (y := m8_make) rfl dX8_make_26 hm ?_
    refine r_aload_n (y := m8_make) dX8_make_29 rfl rfl ?_
    refine g_X8_40 (y := m8_make) rfl dX8_make_30 hm ?_
    refine r_icmp_ge (y := m8_make) (tgt := 166) dX8_make_33 (by decide) (fun hc2 => ?_) (fun hc2 => ?_)
    · have h := h.1 hc2
      exact h
    · have h := h.2 hc2
      refine r_iload_n (y := m8_make) dX8_make_36 rfl rfl ?_
      refine r_if_ne (y := m8_make) (tgt := 54) dX8_make_37 (by decide) (fun hc3 => ?_) (fun hc3 => ?_)
      · have h := h.1 hc3
        refine r_iconst (y := m8_make) (v := 0) dX8_make_54 (by decide) ?_
        exact h
      · have h := h.2 hc3
        refine r_aload_n (y := m8_make) dX8_make_40 rfl rfl ?_
        refine g_X8_40 (y := m8_make) rfl dX8_make_41 hm ?_
        refine r_aload_n (y := m8_make) dX8_make_44 rfl rfl ?_
        refine g_X8_37 (y := m8_make) rfl dX8_make_45 hm ?_
        refine r_isub (y := m8_make) dX8_make_48 ?_
        refine r_iconst (y := m8_make) (v := 1) dX8_make_49 (by decide) ?_
        refine r_isub (y := m8_make) dX8_make_50 ?_
        refine r_goto (y := m8_make) (tgt := 55) dX8_make_51 (by decide) ?_
        exact h
set_option maxHeartbeats 4000000 in
set_option maxRecDepth 100000 in
theorem u8_make_166 {m : Mm} {K : Option Value ⊕ String → Mm → Prop} (hm : St m) {ee1 nn1 : Nat} {v2 : Int32} {v3 : Int32} {v4 : Int32} {v5 : Int32} (hee1 : isExp m ee1 nn1) (h : (((mI m 541 9) ≤ (mI m 541 8) → V m8_make 187 [some (.ref 541), some (.ref ee1), some (.int v2), some (.int v3), some (.int v4), some (.int v5), none, none, none] [(.int 1), (.int 5), (.ref 543)] m K) ∧ (¬ (mI m 541 9) ≤ (mI m 541 8) → V m8_make 187 [some (.ref 541), some (.ref ee1), some (.int v2), some (.int v3), some (.int v4), some (.int v5), none, none, none] [(.int 0), (.int 5), (.ref 543)] m K))) : V m8_make 166 [some (.ref 541), some (.ref ee1), some (.int v2), some (.int v3), some (.int v4), some (.int v5), none, none, none] [] m K := by
  refine r_aload_n (y := m8_make) dX8_make_166 rfl rfl ?_
  refine g_X8_17 (y := m8_make) rfl dX8_make_167 hm ?_
  refine r_iconst (y := m8_make) (v := 5) dX8_make_170 (by decide) ?_
  refine r_aload_n (y := m8_make) dX8_make_171 rfl rfl ?_
  refine g_X8_37 (y := m8_make) rfl dX8_make_172 hm ?_
  refine r_aload_n (y := m8_make) dX8_make_175 rfl rfl ?_
  refine g_X8_40 (y := m8_make) rfl dX8_make_176 hm ?_
  refine r_icmp_ge (y := m8_make) (tgt := 186) dX8_make_179 (by decide) (fun hc1 => ?_) (fun hc1 => ?_)
  · have h := h.1 hc1
    refine r_iconst (y := m8_make) (v := 1) dX8_make_186 (by decide) ?_
    exact h
  · have h := h.2 hc1
    refine r_iconst (y := m8_make) (v := 0) dX8_make_182 (by decide) ?_
    refine r_goto (y := m8_make) (tgt := 187) dX8_make_183 (by decide) ?_
    exact h
set_option maxHeartbeats 4000000 in
set_option maxRecDepth 100000 in
theorem u8_make_55 {m : Mm} {K : Option Value ⊕ String → Mm → Prop} (hm : St m) {ee1 nn1 : Nat} {v2 : Int32} {v3 : Int32} {v4 : Int32} {v5 : Int32} {s0 : Int32} (hee1 : isExp m ee1 nn1) (h : ((¬ v2 = 2 → V m8_make 93 [some (.ref 541), some (.ref ee1), some (.int v2), some (.int v3), some (.int v4), some (.int v5), some (.int s0), none, none] [] m K) ∧ (v2 = 2 → ¬ ((mI m 541 9) - (mI m 541 8)) = 0 ∧ V m8_make 93 [some (.ref 541), some (.ref ee1), some (.int v2), some (.int v3), some (.int ((v4 * 1103515245) + 12345)), some (.int v5), some (.int (((((((v4 * 1103515245) + 12345)).toUInt32 >>> (Int32.toUInt32 (16) &&& Int32.toUInt32 31)).toInt32) &&& 65535) - ((((((v4 * 1103515245) + 12345)).toUInt32 >>> (Int32.toUInt32 (16) &&& Int32.toUInt32 31)).toInt32) &&& 65535) / ((mI m 541 9) - (mI m 541 8)) * ((mI m 541 9) - (mI m 541 8)))), none, none] [] m K))) : V m8_make 55 [some (.ref 541), some (.ref ee1), some (.int v2), some (.int v3), some (.int v4), some (.int v5), none, none, none] [(.int s0)] m K := by
  refine r_istore (y := m8_make) (L' := [some (.ref 541), some (.ref ee1), some (.int v2), some (.int v3), some (.int v4), some (.int v5), some (.int s0), none, none]) dX8_make_55 (Nat.le_of_ble_eq_true rfl) rfl ?_
  refine r_iload_n (y := m8_make) dX8_make_57 rfl rfl ?_
  refine r_iconst (y := m8_make) (v := 2) dX8_make_58 (by decide) ?_
  refine r_icmp_ne (y := m8_make) (tgt := 93) dX8_make_59 (by decide) (fun hc1 => ?_) (fun hc1 => ?_)
  · have h := h.1 hc1
    exact h
  · have h := h.2 hc1
    refine r_iload (y := m8_make) dX8_make_62 rfl ?_
    refine r_ldc (y := m8_make) (v := 1103515245) dX8_make_64 (by decide +kernel) ?_
    refine r_imul (y := m8_make) dX8_make_66 ?_
    refine r_sipush (y := m8_make) (v := 12345) dX8_make_67 (by decide) ?_
    refine r_iadd (y := m8_make) dX8_make_70 ?_
    refine r_istore (y := m8_make) (L' := [some (.ref 541), some (.ref ee1), some (.int v2), some (.int v3), some (.int ((v4 * 1103515245) + 12345)), some (.int v5), some (.int s0), none, none]) dX8_make_71 (Nat.le_of_ble_eq_true rfl) rfl ?_
    refine r_iload (y := m8_make) dX8_make_73 rfl ?_
    refine r_bipush (y := m8_make) (v := 16) dX8_make_75 (by decide) ?_
    refine r_iushr (y := m8_make) (v := (((((v4 * 1103515245) + 12345)).toUInt32 >>> (Int32.toUInt32 (16) &&& Int32.toUInt32 31)).toInt32)) dX8_make_77 rfl ?_
    refine r_ldc (y := m8_make) (v := 65535) dX8_make_78 (by decide +kernel) ?_
    refine r_iand (y := m8_make) dX8_make_80 ?_
    refine r_aload_n (y := m8_make) dX8_make_81 rfl rfl ?_
    refine g_X8_40 (y := m8_make) rfl dX8_make_82 hm ?_
    refine r_aload_n (y := m8_make) dX8_make_85 rfl rfl ?_
    refine g_X8_37 (y := m8_make) rfl dX8_make_86 hm ?_
    refine r_isub (y := m8_make) dX8_make_89 ?_
    obtain ⟨h0, h⟩ := h
    refine r_irem (y := m8_make) dX8_make_90 h0 ?_
    refine r_istore (y := m8_make) (L' := [some (.ref 541), some (.ref ee1), some (.int v2), some (.int v3), some (.int ((v4 * 1103515245) + 12345)), some (.int v5), some (.int (((((((v4 * 1103515245) + 12345)).toUInt32 >>> (Int32.toUInt32 (16) &&& Int32.toUInt32 31)).toInt32) &&& 65535) - ((((((v4 * 1103515245) + 12345)).toUInt32 >>> (Int32.toUInt32 (16) &&& Int32.toUInt32 31)).toInt32) &&& 65535) / ((mI m 541 9) - (mI m 541 8)) * ((mI m 541 9) - (mI m 541 8)))), none, none]) dX8_make_91 (Nat.le_of_ble_eq_true rfl) rfl ?_
    exact h
set_option maxHeartbeats 4000000 in
set_option maxRecDepth 100000 in
theorem u8_make_187 {m : Mm} {K : Option Value ⊕ String → Mm → Prop} (hm : St m) {ee1 nn1 : Nat} {v2 : Int32} {v3 : Int32} {v4 : Int32} {v5 : Int32} {s1 : Int32} {s2 : Int32} (hee1 : isExp m ee1 nn1) (h : vp_in s1 6 ∧ vp_in 0 6 ∧ K (.inl (some (.int (mI (mSetI m 543 (Int32.toNatClampNeg s1) s2) 543 0)))) (mSetI m 543 (Int32.toNatClampNeg s1) s2)) : V m8_make 187 [some (.ref 541), some (.ref ee1), some (.int v2), some (.int v3), some (.int v4), some (.int v5), none, none, none] [(.int s2), (.int s1), (.ref 543)] m K := by
  obtain ⟨hb1, h⟩ := h
  refine r_iast (y := m8_make) (n := 6) dX8_make_187 (sa_543 hm) hb1 ?_
  refine r_aload_n (y := m8_make) dX8_make_188 rfl rfl ?_
  refine g_X8_17 (y := m8_make) rfl dX8_make_189 (St.i hm) ?_
  refine r_iconst (y := m8_make) (v := 0) dX8_make_192 (by decide) ?_
  obtain ⟨hb2, h⟩ := h
  refine r_iald (y := m8_make) (n := 6) dX8_make_193 (sa_543 (St.i hm)) hb2 ?_
  exact r_iret (y := m8_make) dX8_make_194 rfl rfl h
set_option maxHeartbeats 4000000 in
set_option maxRecDepth 100000 in
theorem u8_make_93 {m : Mm} {K : Option Value ⊕ String → Mm → Prop} (hm : St m) {ee1 nn1 : Nat} {v2 : Int32} {v3 : Int32} {v4 : Int32} {v5 : Int32} {v6 : Int32} (hee1 : isExp m ee1 nn1) (h : C m8_takeRow [(.ref 541), (.int v6)] m (fun o m1 => ∃ x3 : Int32, o = .inl (some (.int x3)) ∧ St m1 ∧ C m8_giveWays [(.ref 541), (.int x3)] m1 (fun o m4 => o = .inl none ∧ St m4 ∧ C m3_makeRun [(.ref 12), (.ref ee1)] m4 (fun o m6 => ∃ x8 : Int32, o = .inl (some (.int x8)) ∧ St m6 ∧ vp_in 4 6 ∧ vp_in 4 6 ∧ ((¬ x8 = 4 → vp_in x8 6 ∧ vp_in x8 6 ∧ C m8_keepValue [(.ref 541), (.int x8)] (mSetI (mSetI m6 543 4 ((mI m6 543 4) + 1)) 543 (Int32.toNatClampNeg x8) ((mI (mSetI m6 543 4 ((mI m6 543 4) + 1)) 543 (Int32.toNatClampNeg x8)) + 1)) (fun o m14 => o = .inl none ∧ St m14 ∧ V m8_make 160 [some (.ref 541), some (.ref ee1), some (.int v2), some (.int v3), some (.int v4), some (.int v5), some (.int v6), some (.int x3), some (.int x8)] [] m14 K)) ∧ (x8 = 4 → C m8_addBranches [(.ref 541), (.int x3), (.int v2)] (mSetI m6 543 4 ((mI m6 543 4) + 1)) (fun o m16 => o = .inl none ∧ St m16 ∧ V m8_make 160 [some (.ref 541), some (.ref ee1), some (.int v2), some (.int v3), some (.int v4), some (.int v5), some (.int v6), some (.int x3), some (.int x8)] [] m16 K))))))) : V m8_make 93 [some (.ref 541), some (.ref ee1), some (.int v2), some (.int v3), some (.int v4), some (.int v5), some (.int v6), none, none] [] m K := by
  refine r_aload_n (y := m8_make) dX8_make_93 rfl rfl ?_
  refine r_iload (y := m8_make) dX8_make_94 rfl ?_
  refine r_callV (y := m8_make) (As := [(.int v6)]) (b := 541) (ci := 8) dX8_make_96 rfl k8_takeRow lm_X8_60 rfl ⟨by decide, by decide⟩ (so_541 hm) (by decide) rfl (Nat.le_of_ble_eq_true rfl) (C.mono h ?_)
  rintro _ m1 ⟨x3, rfl, hm2, h⟩
  refine ⟨_, rfl, ?_⟩
  refine r_istore (y := m8_make) (L' := [some (.ref 541), some (.ref ee1), some (.int v2), some (.int v3), some (.int v4), some (.int v5), some (.int v6), some (.int x3), none]) dX8_make_99 (Nat.le_of_ble_eq_true rfl) rfl ?_
  refine r_aload_n (y := m8_make) dX8_make_101 rfl rfl ?_
  refine r_iload (y := m8_make) dX8_make_102 rfl ?_
  refine r_callV (y := m8_make) (As := [(.int x3)]) (b := 541) (ci := 8) dX8_make_104 rfl k8_giveWays lm_X8_64 rfl ⟨by decide, by decide⟩ (so_541 hm2) (by decide) rfl (Nat.le_of_ble_eq_true rfl) (C.mono h ?_)
  rintro _ m4 ⟨rfl, hm5, h⟩
  refine ⟨none, rfl, ?_⟩
  refine r_aload_n (y := m8_make) dX8_make_107 rfl rfl ?_
  refine g_X8_46 (y := m8_make) rfl dX8_make_108 hm5 ?_
  refine r_aload_n (y := m8_make) dX8_make_111 rfl rfl ?_
  refine r_callVN (y := m8_make) (As := [(.ref ee1)]) (b := 12) (ci := 3) dX8_make_112 rfl k3_makeRun lm_X8_68 rfl ⟨by decide, by decide⟩ (so_12 hm5) (by decide) rfl (Nat.le_of_ble_eq_true rfl) (C.mono h ?_)
  rintro _ m6 ⟨x8, rfl, hm7, h⟩
  refine ⟨_, rfl, ?_⟩
  refine r_istore (y := m8_make) (L' := [some (.ref 541), some (.ref ee1), some (.int v2), some (.int v3), some (.int v4), some (.int v5), some (.int v6), some (.int x3), some (.int x8)]) dX8_make_115 (Nat.le_of_ble_eq_true rfl) rfl ?_
  refine r_aload_n (y := m8_make) dX8_make_117 rfl rfl ?_
  refine g_X8_17 (y := m8_make) rfl dX8_make_118 hm7 ?_
  refine r_iconst (y := m8_make) (v := 4) dX8_make_121 (by decide) ?_
  refine r_dup2 (y := m8_make) dX8_make_122 ?_
  obtain ⟨hb9, h⟩ := h
  refine r_iald (y := m8_make) (n := 6) dX8_make_123 (sa_543 hm7) hb9 ?_
  refine r_iconst (y := m8_make) (v := 1) dX8_make_124 (by decide) ?_
  refine r_iadd (y := m8_make) dX8_make_125 ?_
  obtain ⟨hb10, h⟩ := h
  refine r_iast (y := m8_make) (n := 6) dX8_make_126 (sa_543 hm7) hb10 ?_
  refine r_iload (y := m8_make) dX8_make_127 rfl ?_
  refine r_iconst (y := m8_make) (v := 4) dX8_make_129 (by decide) ?_
  refine r_icmp_ne (y := m8_make) (tgt := 143) dX8_make_130 (by decide) (fun hc11 => ?_) (fun hc11 => ?_)
  · have h := h.1 hc11
    refine r_aload_n (y := m8_make) dX8_make_143 rfl rfl ?_
    refine g_X8_17 (y := m8_make) rfl dX8_make_144 (St.i hm7) ?_
    refine r_iload (y := m8_make) dX8_make_147 rfl ?_
    refine r_dup2 (y := m8_make) dX8_make_149 ?_
    obtain ⟨hb12, h⟩ := h
    refine r_iald (y := m8_make) (n := 6) dX8_make_150 (sa_543 (St.i hm7)) hb12 ?_
    refine r_iconst (y := m8_make) (v := 1) dX8_make_151 (by decide) ?_
    refine r_iadd (y := m8_make) dX8_make_152 ?_
    obtain ⟨hb13, h⟩ := h
    refine r_iast (y := m8_make) (n := 6) dX8_make_153 (sa_543 (St.i hm7)) hb13 ?_
    refine r_aload_n (y := m8_make) dX8_make_154 rfl rfl ?_
    refine r_iload (y := m8_make) dX8_make_155 rfl ?_
    refine r_callV (y := m8_make) (As := [(.int x8)]) (b := 541) (ci := 8) dX8_make_157 rfl k8_keepValue lm_X8_78 rfl ⟨by decide, by decide⟩ (so_541 (St.i (St.i hm7))) (by decide) rfl (Nat.le_of_ble_eq_true rfl) (C.mono h ?_)
    rintro _ m14 ⟨rfl, hm15, h⟩
    refine ⟨none, rfl, ?_⟩
    exact h
  · have h := h.2 hc11
    refine r_aload_n (y := m8_make) dX8_make_133 rfl rfl ?_
    refine r_iload (y := m8_make) dX8_make_134 rfl ?_
    refine r_iload_n (y := m8_make) dX8_make_136 rfl rfl ?_
    refine r_callV (y := m8_make) (As := [(.int x3), (.int v2)]) (b := 541) (ci := 8) dX8_make_137 rfl k8_addBranches lm_X8_74 rfl ⟨by decide, by decide⟩ (so_541 (St.i hm7)) (by decide) rfl (Nat.le_of_ble_eq_true rfl) (C.mono h ?_)
    rintro _ m16 ⟨rfl, hm17, h⟩
    refine ⟨none, rfl, ?_⟩
    refine r_goto (y := m8_make) (tgt := 160) dX8_make_140 (by decide) ?_
    exact h
set_option maxHeartbeats 4000000 in
set_option maxRecDepth 100000 in
theorem u8_make_160 {m : Mm} {K : Option Value ⊕ String → Mm → Prop} (hm : St m) {ee1 nn1 : Nat} {v2 : Int32} {v3 : Int32} {v4 : Int32} {v5 : Int32} {v6 : Int32} {v7 : Int32} {v8 : Int32} (hee1 : isExp m ee1 nn1) (h : V m8_make 17 [some (.ref 541), some (.ref ee1), some (.int v2), some (.int v3), some (.int v4), some (.int (v5 + 1)), some (.int v6), some (.int v7), some (.int v8)] [] m K) : V m8_make 160 [some (.ref 541), some (.ref ee1), some (.int v2), some (.int v3), some (.int v4), some (.int v5), some (.int v6), some (.int v7), some (.int v8)] [] m K := by
  refine r_iinc (y := m8_make) (v := (v5 + 1)) (L' := [some (.ref 541), some (.ref ee1), some (.int v2), some (.int v3), some (.int v4), some (.int (v5 + 1)), some (.int v6), some (.int v7), some (.int v8)]) dX8_make_160 rfl (by rfl) rfl ?_
  refine r_goto (y := m8_make) (tgt := 17) dX8_make_163 (by decide) ?_
  exact h
set_option maxHeartbeats 4000000 in
set_option maxRecDepth 100000 in
theorem u3_makeThing {m : Mm} {K : Option Value ⊕ String → Mm → Prop} (hm : St m) {e0 ne0 : Nat} {a1 : Int32} {a2 : Int32} {a3 : Int32} (he0 : isExp m e0 ne0) (h : vp_in a1 ne0 ∧ ((¬ (mI m (e0 + 1) (Int32.toNatClampNeg a1)) = 0 → ((¬ (mI m (e0 + 1) (Int32.toNatClampNeg a1)) = 6 → vp_in a1 ne0 ∧ (((mI m (e0 + 3) (Int32.toNatClampNeg a1)) < 0 → V m3_makeThing 82 [some (.ref 12), some (.ref e0), some (.int a1), some (.int a2), some (.int a3), some (.int (mI m (e0 + 1) (Int32.toNatClampNeg a1))), none, none] [(.int (-1))] m K) ∧ (¬ (mI m (e0 + 3) (Int32.toNatClampNeg a1)) < 0 → vp_in a1 ne0 ∧ vp_in (mI m (e0 + 3) (Int32.toNatClampNeg a1)) 12 ∧ V m3_makeThing 82 [some (.ref 12), some (.ref e0), some (.int a1), some (.int a2), some (.int a3), some (.int (mI m (e0 + 1) (Int32.toNatClampNeg a1))), none, none] [(.int (mI m 30 (Int32.toNatClampNeg (mI m (e0 + 3) (Int32.toNatClampNeg a1)))))] m K))) ∧ ((mI m (e0 + 1) (Int32.toNatClampNeg a1)) = 6 → vp_in a1 ne0 ∧ C m10_add [(.ref 13), (.int 6), (.int (mI m (e0 + 3) (Int32.toNatClampNeg a1))), (.int (-1)), (.int (-1)), (.int a2), (.int a3)] m (fun o m9 => ∃ x11 : Int32, o = .inl (some (.int x11)) ∧ St m9 ∧ K (.inl (some (.int x11))) m9)))) ∧ ((mI m (e0 + 1) (Int32.toNatClampNeg a1)) = 0 → vp_in a2 102 ∧ vp_in a1 ne0 ∧ vp_in (mI m (e0 + 2) (Int32.toNatClampNeg a1)) 6 ∧ K (.inl (some (.int (mI m (32 + 2 * (Int32.toNatClampNeg a2)) (Int32.toNatClampNeg (mI m (e0 + 2) (Int32.toNatClampNeg a1))))))) m))) : V m3_makeThing 0 [some (.ref 12), some (.ref e0), some (.int a1), some (.int a2), some (.int a3), none, none, none] [] m K := by
  refine r_aload_n (y := m3_makeThing) dX3_makeThing_0 rfl rfl ?_
  refine g_X3_199 (y := m3_makeThing) rfl dX3_makeThing_1 he0 ?_
  refine r_iload_n (y := m3_makeThing) dX3_makeThing_4 rfl rfl ?_
  obtain ⟨hb1, h⟩ := h
  refine r_iald (y := m3_makeThing) (n := ne0) dX3_makeThing_5 (he0.2 1 (by decide) (by decide)).2 hb1 ?_
  refine r_istore (y := m3_makeThing) (L' := [some (.ref 12), some (.ref e0), some (.int a1), some (.int a2), some (.int a3), some (.int (mI m (e0 + 1) (Int32.toNatClampNeg a1))), none, none]) dX3_makeThing_6 (Nat.le_of_ble_eq_true rfl) rfl ?_
  refine r_iload (y := m3_makeThing) dX3_makeThing_8 rfl ?_
  refine r_if_ne (y := m3_makeThing) (tgt := 30) dX3_makeThing_10 (by decide) (fun hc2 => ?_) (fun hc2 => ?_)
  · have h := h.1 hc2
    refine r_iload (y := m3_makeThing) dX3_makeThing_30 rfl ?_
    refine r_bipush (y := m3_makeThing) (v := 6) dX3_makeThing_32 (by decide) ?_
    refine r_icmp_ne (y := m3_makeThing) (tgt := 58) dX3_makeThing_34 (by decide) (fun hc3 => ?_) (fun hc3 => ?_)
    · have h := h.1 hc3
      refine r_aload_n (y := m3_makeThing) dX3_makeThing_58 rfl rfl ?_
      refine g_X3_215 (y := m3_makeThing) rfl dX3_makeThing_59 he0 ?_
      refine r_iload_n (y := m3_makeThing) dX3_makeThing_62 rfl rfl ?_
      obtain ⟨hb4, h⟩ := h
      refine r_iald (y := m3_makeThing) (n := ne0) dX3_makeThing_63 (he0.2 3 (by decide) (by decide)).2 hb4 ?_
      refine r_if_lt (y := m3_makeThing) (tgt := 81) dX3_makeThing_64 (by decide) (fun hc5 => ?_) (fun hc5 => ?_)
      · have h := h.1 hc5
        refine r_iconst (y := m3_makeThing) (v := (-1)) dX3_makeThing_81 (by decide) ?_
        exact h
      · have h := h.2 hc5
        refine r_aload_n (y := m3_makeThing) dX3_makeThing_67 rfl rfl ?_
        refine g_X3_37 (y := m3_makeThing) rfl dX3_makeThing_68 hm ?_
        refine r_aload_n (y := m3_makeThing) dX3_makeThing_71 rfl rfl ?_
        refine g_X3_215 (y := m3_makeThing) rfl dX3_makeThing_72 he0 ?_
        refine r_iload_n (y := m3_makeThing) dX3_makeThing_75 rfl rfl ?_
        obtain ⟨hb6, h⟩ := h
        refine r_iald (y := m3_makeThing) (n := ne0) dX3_makeThing_76 (he0.2 3 (by decide) (by decide)).2 hb6 ?_
        obtain ⟨hb7, h⟩ := h
        refine r_iald (y := m3_makeThing) (n := 12) dX3_makeThing_77 (sa_30 hm) hb7 ?_
        refine r_goto (y := m3_makeThing) (tgt := 82) dX3_makeThing_78 (by decide) ?_
        exact h
    · have h := h.2 hc3
      refine r_aload_n (y := m3_makeThing) dX3_makeThing_37 rfl rfl ?_
      refine g_X3_12 (y := m3_makeThing) rfl dX3_makeThing_38 hm ?_
      refine r_bipush (y := m3_makeThing) (v := 6) dX3_makeThing_41 (by decide) ?_
      refine r_aload_n (y := m3_makeThing) dX3_makeThing_43 rfl rfl ?_
      refine g_X3_215 (y := m3_makeThing) rfl dX3_makeThing_44 he0 ?_
      refine r_iload_n (y := m3_makeThing) dX3_makeThing_47 rfl rfl ?_
      obtain ⟨hb8, h⟩ := h
      refine r_iald (y := m3_makeThing) (n := ne0) dX3_makeThing_48 (he0.2 3 (by decide) (by decide)).2 hb8 ?_
      refine r_iconst (y := m3_makeThing) (v := (-1)) dX3_makeThing_49 (by decide) ?_
      refine r_iconst (y := m3_makeThing) (v := (-1)) dX3_makeThing_50 (by decide) ?_
      refine r_iload_n (y := m3_makeThing) dX3_makeThing_51 rfl rfl ?_
      refine r_iload (y := m3_makeThing) dX3_makeThing_52 rfl ?_
      refine r_callVN (y := m3_makeThing) (As := [(.int 6), (.int (mI m (e0 + 3) (Int32.toNatClampNeg a1))), (.int (-1)), (.int (-1)), (.int a2), (.int a3)]) (b := 13) (ci := 10) dX3_makeThing_54 rfl k10_add lm_X3_218 rfl ⟨by decide, by decide⟩ (so_13 hm) (by decide) rfl (Nat.le_of_ble_eq_true rfl) (C.mono h ?_)
      rintro _ m9 ⟨x11, rfl, hm10, h⟩
      refine ⟨_, rfl, ?_⟩
      exact r_iret (y := m3_makeThing) dX3_makeThing_57 rfl rfl h
  · have h := h.2 hc2
    refine r_aload_n (y := m3_makeThing) dX3_makeThing_13 rfl rfl ?_
    refine g_X3_27 (y := m3_makeThing) rfl dX3_makeThing_14 hm ?_
    refine r_iload_n (y := m3_makeThing) dX3_makeThing_17 rfl rfl ?_
    obtain ⟨hb12, h⟩ := h
    have hl13 := vp_lt hb12
    refine r_aald (y := m3_makeThing) (n := 102) (r := some (31 + 2 * (Int32.toNatClampNeg a2))) dX3_makeThing_18 (sa_28 hm) (by decide) (by decide) hb12 (sr_sc hm hl13) ?_
    refine g_X3_192 (y := m3_makeThing) (i := (Int32.toNatClampNeg a2)) rfl dX3_makeThing_19 hm hl13 ?_
    refine r_aload_n (y := m3_makeThing) dX3_makeThing_22 rfl rfl ?_
    refine g_X3_202 (y := m3_makeThing) rfl dX3_makeThing_23 he0 ?_
    refine r_iload_n (y := m3_makeThing) dX3_makeThing_26 rfl rfl ?_
    obtain ⟨hb14, h⟩ := h
    refine r_iald (y := m3_makeThing) (n := ne0) dX3_makeThing_27 (he0.2 2 (by decide) (by decide)).2 hb14 ?_
    obtain ⟨hb15, h⟩ := h
    refine r_iald (y := m3_makeThing) (n := 6) dX3_makeThing_28 (sa_st hm hl13) hb15 ?_
    exact r_iret (y := m3_makeThing) dX3_makeThing_29 rfl rfl h
set_option maxHeartbeats 4000000 in
set_option maxRecDepth 100000 in
theorem u3_makeThing_82 {m : Mm} {K : Option Value ⊕ String → Mm → Prop} (hm : St m) {ee1 nn1 : Nat} {v2 : Int32} {v3 : Int32} {v4 : Int32} {v5 : Int32} {s0 : Int32} (hee1 : isExp m ee1 nn1) (h : vp_in v2 nn1 ∧ (((mI m (ee1 + 4) (Int32.toNatClampNeg v2)) < 0 → V m3_makeThing 108 [some (.ref 12), some (.ref ee1), some (.int v2), some (.int v3), some (.int v4), some (.int v5), some (.int s0), none] [(.int (-1))] m K) ∧ (¬ (mI m (ee1 + 4) (Int32.toNatClampNeg v2)) < 0 → vp_in v2 nn1 ∧ vp_in (mI m (ee1 + 4) (Int32.toNatClampNeg v2)) 12 ∧ V m3_makeThing 108 [some (.ref 12), some (.ref ee1), some (.int v2), some (.int v3), some (.int v4), some (.int v5), some (.int s0), none] [(.int (mI m 30 (Int32.toNatClampNeg (mI m (ee1 + 4) (Int32.toNatClampNeg v2)))))] m K))) : V m3_makeThing 82 [some (.ref 12), some (.ref ee1), some (.int v2), some (.int v3), some (.int v4), some (.int v5), none, none] [(.int s0)] m K := by
  refine r_istore (y := m3_makeThing) (L' := [some (.ref 12), some (.ref ee1), some (.int v2), some (.int v3), some (.int v4), some (.int v5), some (.int s0), none]) dX3_makeThing_82 (Nat.le_of_ble_eq_true rfl) rfl ?_
  refine r_aload_n (y := m3_makeThing) dX3_makeThing_84 rfl rfl ?_
  refine g_X3_222 (y := m3_makeThing) rfl dX3_makeThing_85 hee1 ?_
  refine r_iload_n (y := m3_makeThing) dX3_makeThing_88 rfl rfl ?_
  obtain ⟨hb1, h⟩ := h
  refine r_iald (y := m3_makeThing) (n := nn1) dX3_makeThing_89 (hee1.2 4 (by decide) (by decide)).2 hb1 ?_
  refine r_if_lt (y := m3_makeThing) (tgt := 107) dX3_makeThing_90 (by decide) (fun hc2 => ?_) (fun hc2 => ?_)
  · have h := h.1 hc2
    refine r_iconst (y := m3_makeThing) (v := (-1)) dX3_makeThing_107 (by decide) ?_
    exact h
  · have h := h.2 hc2
    refine r_aload_n (y := m3_makeThing) dX3_makeThing_93 rfl rfl ?_
    refine g_X3_37 (y := m3_makeThing) rfl dX3_makeThing_94 hm ?_
    refine r_aload_n (y := m3_makeThing) dX3_makeThing_97 rfl rfl ?_
    refine g_X3_222 (y := m3_makeThing) rfl dX3_makeThing_98 hee1 ?_
    refine r_iload_n (y := m3_makeThing) dX3_makeThing_101 rfl rfl ?_
    obtain ⟨hb3, h⟩ := h
    refine r_iald (y := m3_makeThing) (n := nn1) dX3_makeThing_102 (hee1.2 4 (by decide) (by decide)).2 hb3 ?_
    obtain ⟨hb4, h⟩ := h
    refine r_iald (y := m3_makeThing) (n := 12) dX3_makeThing_103 (sa_30 hm) hb4 ?_
    refine r_goto (y := m3_makeThing) (tgt := 108) dX3_makeThing_104 (by decide) ?_
    exact h
set_option maxHeartbeats 4000000 in
set_option maxRecDepth 100000 in
theorem u3_makeThing_108 {m : Mm} {K : Option Value ⊕ String → Mm → Prop} (hm : St m) {ee1 nn1 : Nat} {v2 : Int32} {v3 : Int32} {v4 : Int32} {v5 : Int32} {v6 : Int32} {s0 : Int32} (hee1 : isExp m ee1 nn1) (h : vp_in v2 nn1 ∧ C m10_add [(.ref 13), (.int v5), (.int (mI m (ee1 + 2) (Int32.toNatClampNeg v2))), (.int v6), (.int s0), (.int v3), (.int v4)] m (fun o m2 => ∃ x4 : Int32, o = .inl (some (.int x4)) ∧ St m2 ∧ K (.inl (some (.int x4))) m2)) : V m3_makeThing 108 [some (.ref 12), some (.ref ee1), some (.int v2), some (.int v3), some (.int v4), some (.int v5), some (.int v6), none] [(.int s0)] m K := by
  refine r_istore (y := m3_makeThing) (L' := [some (.ref 12), some (.ref ee1), some (.int v2), some (.int v3), some (.int v4), some (.int v5), some (.int v6), some (.int s0)]) dX3_makeThing_108 (Nat.le_of_ble_eq_true rfl) rfl ?_
  refine r_aload_n (y := m3_makeThing) dX3_makeThing_110 rfl rfl ?_
  refine g_X3_12 (y := m3_makeThing) rfl dX3_makeThing_111 hm ?_
  refine r_iload (y := m3_makeThing) dX3_makeThing_114 rfl ?_
  refine r_aload_n (y := m3_makeThing) dX3_makeThing_116 rfl rfl ?_
  refine g_X3_202 (y := m3_makeThing) rfl dX3_makeThing_117 hee1 ?_
  refine r_iload_n (y := m3_makeThing) dX3_makeThing_120 rfl rfl ?_
  obtain ⟨hb1, h⟩ := h
  refine r_iald (y := m3_makeThing) (n := nn1) dX3_makeThing_121 (hee1.2 2 (by decide) (by decide)).2 hb1 ?_
  refine r_iload (y := m3_makeThing) dX3_makeThing_122 rfl ?_
  refine r_iload (y := m3_makeThing) dX3_makeThing_124 rfl ?_
  refine r_iload_n (y := m3_makeThing) dX3_makeThing_126 rfl rfl ?_
  refine r_iload (y := m3_makeThing) dX3_makeThing_127 rfl ?_
  refine r_callVN (y := m3_makeThing) (As := [(.int v5), (.int (mI m (ee1 + 2) (Int32.toNatClampNeg v2))), (.int v6), (.int s0), (.int v3), (.int v4)]) (b := 13) (ci := 10) dX3_makeThing_129 rfl k10_add lm_X3_218 rfl ⟨by decide, by decide⟩ (so_13 hm) (by decide) rfl (Nat.le_of_ble_eq_true rfl) (C.mono h ?_)
  rintro _ m2 ⟨x4, rfl, hm3, h⟩
  refine ⟨_, rfl, ?_⟩
  exact r_iret (y := m3_makeThing) dX3_makeThing_132 rfl rfl h
set_option maxHeartbeats 4000000 in
set_option maxRecDepth 100000 in
theorem u3_decide {m : Mm} {K : Option Value ⊕ String → Mm → Prop} (hm : St m) {a0 : Int32} {a1 : Int32}  (h : vp_in a0 102 ∧ (((mI m (235 + 3 * (Int32.toNatClampNeg a0)) 3) < 40 → (((mI m (235 + 3 * (Int32.toNatClampNeg a0)) 3) < (mI m (235 + 3 * (Int32.toNatClampNeg a0)) 2) → V m3_decide 60 [some (.ref 12), some (.int a0), some (.int a1), some (.ref (235 + 3 * (Int32.toNatClampNeg a0))), some (.int (mI m (235 + 3 * (Int32.toNatClampNeg a0)) 3))] [] m K) ∧ (¬ (mI m (235 + 3 * (Int32.toNatClampNeg a0)) 3) < (mI m (235 + 3 * (Int32.toNatClampNeg a0)) 2) → ((¬ a0 = 0 → vp_in (mI m (235 + 3 * (Int32.toNatClampNeg a0)) 3) 40 ∧ V m3_decide 60 [some (.ref 12), some (.int a0), some (.int a1), some (.ref (235 + 3 * (Int32.toNatClampNeg a0))), some (.int (mI m (235 + 3 * (Int32.toNatClampNeg a0)) 3))] [] (mSetI m (236 + 3 * (Int32.toNatClampNeg a0)) (Int32.toNatClampNeg (mI m (235 + 3 * (Int32.toNatClampNeg a0)) 3)) 0) K) ∧ (a0 = 0 → K (.inl (some (.int (-1)))) (mSetI (mSetI m 12 12 4) 12 13 a1)))))) ∧ (¬ (mI m (235 + 3 * (Int32.toNatClampNeg a0)) 3) < 40 → K (.inl (some (.int (-1)))) (mSetI m 12 12 3)))) : V m3_decide 0 [some (.ref 12), some (.int a0), some (.int a1), none, none] [] m K := by
  refine r_aload_n (y := m3_decide) dX3_decide_0 rfl rfl ?_
  refine g_X3_33 (y := m3_decide) rfl dX3_decide_1 hm ?_
  refine r_iload_n (y := m3_decide) dX3_decide_4 rfl rfl ?_
  obtain ⟨hb1, h⟩ := h
  have hl2 := vp_lt hb1
  refine r_aald (y := m3_decide) (n := 102) (r := some (235 + 3 * (Int32.toNatClampNeg a0))) dX3_decide_5 (sa_29 hm) (by decide) (by decide) hb1 (sr_lv hm hl2) ?_
  refine r_astore_n (y := m3_decide) (L' := [some (.ref 12), some (.int a0), some (.int a1), some (.ref (235 + 3 * (Int32.toNatClampNeg a0))), none]) dX3_decide_6 rfl (Nat.le_of_ble_eq_true rfl) rfl ?_
  refine r_aload_n (y := m3_decide) dX3_decide_7 rfl rfl ?_
  refine g_X3_105 (y := m3_decide) (i := (Int32.toNatClampNeg a0)) rfl dX3_decide_8 hm hl2 ?_
  refine r_istore (y := m3_decide) (L' := [some (.ref 12), some (.int a0), some (.int a1), some (.ref (235 + 3 * (Int32.toNatClampNeg a0))), some (.int (mI m (235 + 3 * (Int32.toNatClampNeg a0)) 3))]) dX3_decide_11 (Nat.le_of_ble_eq_true rfl) rfl ?_
  refine r_iload (y := m3_decide) dX3_decide_13 rfl ?_
  refine r_bipush (y := m3_decide) (v := 40) dX3_decide_15 (by decide) ?_
  refine r_icmp_lt (y := m3_decide) (tgt := 27) dX3_decide_17 (by decide) (fun hc3 => ?_) (fun hc3 => ?_)
  · have h := h.1 hc3
    refine r_iload (y := m3_decide) dX3_decide_27 rfl ?_
    refine r_aload_n (y := m3_decide) dX3_decide_29 rfl rfl ?_
    refine g_X3_164 (y := m3_decide) (i := (Int32.toNatClampNeg a0)) rfl dX3_decide_30 hm hl2 ?_
    refine r_icmp_lt (y := m3_decide) (tgt := 60) dX3_decide_33 (by decide) (fun hc4 => ?_) (fun hc4 => ?_)
    · have h := h.1 hc4
      exact h
    · have h := h.2 hc4
      refine r_iload_n (y := m3_decide) dX3_decide_36 rfl rfl ?_
      refine r_if_ne (y := m3_decide) (tgt := 52) dX3_decide_37 (by decide) (fun hc5 => ?_) (fun hc5 => ?_)
      · have h := h.1 hc5
        refine r_aload_n (y := m3_decide) dX3_decide_52 rfl rfl ?_
        refine g_X3_167 (y := m3_decide) (i := (Int32.toNatClampNeg a0)) rfl dX3_decide_53 hm hl2 ?_
        refine r_iload (y := m3_decide) dX3_decide_56 rfl ?_
        refine r_iconst (y := m3_decide) (v := 0) dX3_decide_58 (by decide) ?_
        obtain ⟨hb6, h⟩ := h
        refine r_iast (y := m3_decide) (n := 40) dX3_decide_59 (sa_lw hm hl2) hb6 ?_
        exact h
      · have h := h.2 hc5
        refine r_aload_n (y := m3_decide) dX3_decide_40 rfl rfl ?_
        refine r_iconst (y := m3_decide) (v := 4) dX3_decide_41 (by decide) ?_
        refine p_X3_57 (y := m3_decide) rfl dX3_decide_42 hm ?_
        refine r_aload_n (y := m3_decide) dX3_decide_45 rfl rfl ?_
        refine r_iload_n (y := m3_decide) dX3_decide_46 rfl rfl ?_
        refine p_X3_60 (y := m3_decide) rfl dX3_decide_47 (St.i hm) ?_
        refine r_iconst (y := m3_decide) (v := (-1)) dX3_decide_50 (by decide) ?_
        exact r_iret (y := m3_decide) dX3_decide_51 rfl rfl h
  · have h := h.2 hc3
    refine r_aload_n (y := m3_decide) dX3_decide_20 rfl rfl ?_
    refine r_iconst (y := m3_decide) (v := 3) dX3_decide_21 (by decide) ?_
    refine p_X3_57 (y := m3_decide) rfl dX3_decide_22 hm ?_
    refine r_iconst (y := m3_decide) (v := (-1)) dX3_decide_25 (by decide) ?_
    exact r_iret (y := m3_decide) dX3_decide_26 rfl rfl h
set_option maxHeartbeats 4000000 in
set_option maxRecDepth 100000 in
theorem u3_decide_60 {m : Mm} {K : Option Value ⊕ String → Mm → Prop} (hm : St m) {v1 : Int32} {v2 : Int32} {jj3 : Nat} {v4 : Int32} (hjj3 : jj3 < 102) (h : vp_in v4 40 ∧ vp_in v4 40 ∧ K (.inl (some (.int (mI (mSetI (mSetI m (237 + 3 * jj3) (Int32.toNatClampNeg v4) v2) (235 + 3 * jj3) 3 (v4 + 1)) (236 + 3 * jj3) (Int32.toNatClampNeg v4))))) (mSetI (mSetI m (237 + 3 * jj3) (Int32.toNatClampNeg v4) v2) (235 + 3 * jj3) 3 (v4 + 1))) : V m3_decide 60 [some (.ref 12), some (.int v1), some (.int v2), some (.ref (235 + 3 * jj3)), some (.int v4)] [] m K := by
  refine r_aload_n (y := m3_decide) dX3_decide_60 rfl rfl ?_
  refine g_X3_170 (y := m3_decide) (i := jj3) rfl dX3_decide_61 hm hjj3 ?_
  refine r_iload (y := m3_decide) dX3_decide_64 rfl ?_
  refine r_iload_n (y := m3_decide) dX3_decide_66 rfl rfl ?_
  obtain ⟨hb1, h⟩ := h
  refine r_iast (y := m3_decide) (n := 40) dX3_decide_67 (sa_ll hm hjj3) hb1 ?_
  refine r_aload_n (y := m3_decide) dX3_decide_68 rfl rfl ?_
  refine r_iload (y := m3_decide) dX3_decide_69 rfl ?_
  refine r_iconst (y := m3_decide) (v := 1) dX3_decide_71 (by decide) ?_
  refine r_iadd (y := m3_decide) dX3_decide_72 ?_
  refine p_X3_105 (y := m3_decide) (i := jj3) rfl dX3_decide_73 (St.i hm) hjj3 ?_
  refine r_aload_n (y := m3_decide) dX3_decide_76 rfl rfl ?_
  refine g_X3_167 (y := m3_decide) (i := jj3) rfl dX3_decide_77 (St.i (St.i hm)) hjj3 ?_
  refine r_iload (y := m3_decide) dX3_decide_80 rfl ?_
  obtain ⟨hb2, h⟩ := h
  refine r_iald (y := m3_decide) (n := 40) dX3_decide_82 (sa_lw (St.i (St.i hm)) hjj3) hb2 ?_
  exact r_iret (y := m3_decide) dX3_decide_83 rfl rfl h
set_option maxHeartbeats 4000000 in
set_option maxRecDepth 100000 in
theorem u3_fail {m : Mm} {K : Option Value ⊕ String → Mm → Prop} (hm : St m) {a0 : Int32}  (h : ((¬ a0 = 0 → vp_in a0 102 ∧ C m2_advance [(.ref (235 + 3 * (Int32.toNatClampNeg a0)))] (mSetI (mSetI m 23 4 (mI m (235 + 3 * (Int32.toNatClampNeg a0)) 7)) 12 9 a0) (fun o m4 => ∃ x6 : Int32, o = .inl (some (.int x6)) ∧ St m4 ∧ ((¬ x6 = 0 → (((mI m4 (235 + 3 * (Int32.toNatClampNeg a0)) 6) < 20 → C m9_push [(.ref 23), (.int 8), (.int (-1)), (.int (-1)), (.int (-1))] m4 (fun o m9 => o = .inl none ∧ St m9 ∧ V m3_fail 93 [some (.ref 12), some (.int a0), some (.ref (235 + 3 * (Int32.toNatClampNeg a0)))] [] m9 K)) ∧ (¬ (mI m4 (235 + 3 * (Int32.toNatClampNeg a0)) 6) < 20 → V m3_fail 93 [some (.ref 12), some (.int a0), some (.ref (235 + 3 * (Int32.toNatClampNeg a0)))] [] (mSetI m4 12 12 3) K))) ∧ (x6 = 0 → C m10_becomeData [(.ref 13), (.int (mI m4 (235 + 3 * (Int32.toNatClampNeg a0)) 5)), (.int 0), (.int (-1)), (.int (-1))] m4 (fun o m11 => o = .inl none ∧ St m11 ∧ V m3_fail 93 [some (.ref 12), some (.int a0), some (.ref (235 + 3 * (Int32.toNatClampNeg a0)))] [] (mSetI m11 12 9 (a0 - 1)) K))))) ∧ (a0 = 0 → K (.inl none) (mSetI m 12 12 1)))) : V m3_fail 0 [some (.ref 12), some (.int a0), none] [] m K := by
  refine r_iload_n (y := m3_fail) dX3_fail_0 rfl rfl ?_
  refine r_if_ne (y := m3_fail) (tgt := 10) dX3_fail_1 (by decide) (fun hc1 => ?_) (fun hc1 => ?_)
  · have h := h.1 hc1
    refine r_aload_n (y := m3_fail) dX3_fail_10 rfl rfl ?_
    refine g_X3_33 (y := m3_fail) rfl dX3_fail_11 hm ?_
    refine r_iload_n (y := m3_fail) dX3_fail_14 rfl rfl ?_
    obtain ⟨hb2, h⟩ := h
    have hl3 := vp_lt hb2
    refine r_aald (y := m3_fail) (n := 102) (r := some (235 + 3 * (Int32.toNatClampNeg a0))) dX3_fail_15 (sa_29 hm) (by decide) (by decide) hb2 (sr_lv hm hl3) ?_
    refine r_astore_n (y := m3_fail) (L' := [some (.ref 12), some (.int a0), some (.ref (235 + 3 * (Int32.toNatClampNeg a0)))]) dX3_fail_16 rfl (Nat.le_of_ble_eq_true rfl) rfl ?_
    refine r_aload_n (y := m3_fail) dX3_fail_17 rfl rfl ?_
    refine g_X3_21 (y := m3_fail) rfl dX3_fail_18 hm ?_
    refine r_aload_n (y := m3_fail) dX3_fail_21 rfl rfl ?_
    refine g_X3_173 (y := m3_fail) (i := (Int32.toNatClampNeg a0)) rfl dX3_fail_22 hm hl3 ?_
    refine p_X3_97 (y := m3_fail) rfl dX3_fail_25 hm ?_
    refine r_aload_n (y := m3_fail) dX3_fail_28 rfl rfl ?_
    refine r_iload_n (y := m3_fail) dX3_fail_29 rfl rfl ?_
    refine p_X3_48 (y := m3_fail) rfl dX3_fail_30 (St.i hm) ?_
    refine r_aload_n (y := m3_fail) dX3_fail_33 rfl rfl ?_
    refine r_callVN (y := m3_fail) (As := []) (b := (235 + 3 * (Int32.toNatClampNeg a0))) (ci := 2) dX3_fail_34 rfl k2_advance lm_X3_176 rfl ⟨by decide, by decide⟩ (so_lv (St.i (St.i hm)) hl3) (by decide) rfl (Nat.le_of_ble_eq_true rfl) (C.mono h ?_)
    rintro _ m4 ⟨x6, rfl, hm5, h⟩
    refine ⟨_, rfl, ?_⟩
    refine r_if_ne (y := m3_fail) (tgt := 64) dX3_fail_37 (by decide) (fun hc7 => ?_) (fun hc7 => ?_)
    · have h := h.1 hc7
      refine r_aload_n (y := m3_fail) dX3_fail_64 rfl rfl ?_
      refine g_X3_183 (y := m3_fail) (i := (Int32.toNatClampNeg a0)) rfl dX3_fail_65 hm5 hl3 ?_
      refine r_bipush (y := m3_fail) (v := 20) dX3_fail_68 (by decide) ?_
      refine r_icmp_lt (y := m3_fail) (tgt := 81) dX3_fail_70 (by decide) (fun hc8 => ?_) (fun hc8 => ?_)
      · have h := h.1 hc8
        refine r_aload_n (y := m3_fail) dX3_fail_81 rfl rfl ?_
        refine g_X3_21 (y := m3_fail) rfl dX3_fail_82 hm5 ?_
        refine r_bipush (y := m3_fail) (v := 8) dX3_fail_85 (by decide) ?_
        refine r_iconst (y := m3_fail) (v := (-1)) dX3_fail_87 (by decide) ?_
        refine r_iconst (y := m3_fail) (v := (-1)) dX3_fail_88 (by decide) ?_
        refine r_iconst (y := m3_fail) (v := (-1)) dX3_fail_89 (by decide) ?_
        refine r_callVN (y := m3_fail) (As := [(.int 8), (.int (-1)), (.int (-1)), (.int (-1))]) (b := 23) (ci := 9) dX3_fail_90 rfl k9_push lm_X3_186 rfl ⟨by decide, by decide⟩ (so_23 hm5) (by decide) rfl (Nat.le_of_ble_eq_true rfl) (C.mono h ?_)
        rintro _ m9 ⟨rfl, hm10, h⟩
        refine ⟨none, rfl, ?_⟩
        exact h
      · have h := h.2 hc8
        refine r_aload_n (y := m3_fail) dX3_fail_73 rfl rfl ?_
        refine r_iconst (y := m3_fail) (v := 3) dX3_fail_74 (by decide) ?_
        refine p_X3_57 (y := m3_fail) rfl dX3_fail_75 hm5 ?_
        refine r_goto (y := m3_fail) (tgt := 93) dX3_fail_78 (by decide) ?_
        exact h
    · have h := h.2 hc7
      refine r_aload_n (y := m3_fail) dX3_fail_40 rfl rfl ?_
      refine g_X3_12 (y := m3_fail) rfl dX3_fail_41 hm5 ?_
      refine r_aload_n (y := m3_fail) dX3_fail_44 rfl rfl ?_
      refine g_X3_180 (y := m3_fail) (i := (Int32.toNatClampNeg a0)) rfl dX3_fail_45 hm5 hl3 ?_
      refine r_iconst (y := m3_fail) (v := 0) dX3_fail_48 (by decide) ?_
      refine r_iconst (y := m3_fail) (v := (-1)) dX3_fail_49 (by decide) ?_
      refine r_iconst (y := m3_fail) (v := (-1)) dX3_fail_50 (by decide) ?_
      refine r_callVN (y := m3_fail) (As := [(.int (mI m4 (235 + 3 * (Int32.toNatClampNeg a0)) 5)), (.int 0), (.int (-1)), (.int (-1))]) (b := 13) (ci := 10) dX3_fail_51 rfl k10_becomeData lm_X3_148 rfl ⟨by decide, by decide⟩ (so_13 hm5) (by decide) rfl (Nat.le_of_ble_eq_true rfl) (C.mono h ?_)
      rintro _ m11 ⟨rfl, hm12, h⟩
      refine ⟨none, rfl, ?_⟩
      refine r_aload_n (y := m3_fail) dX3_fail_54 rfl rfl ?_
      refine r_iload_n (y := m3_fail) dX3_fail_55 rfl rfl ?_
      refine r_iconst (y := m3_fail) (v := 1) dX3_fail_56 (by decide) ?_
      refine r_isub (y := m3_fail) dX3_fail_57 ?_
      refine p_X3_48 (y := m3_fail) rfl dX3_fail_58 hm12 ?_
      refine r_goto (y := m3_fail) (tgt := 93) dX3_fail_61 (by decide) ?_
      exact h
  · have h := h.2 hc1
    refine r_aload_n (y := m3_fail) dX3_fail_4 rfl rfl ?_
    refine r_iconst (y := m3_fail) (v := 1) dX3_fail_5 (by decide) ?_
    refine p_X3_57 (y := m3_fail) rfl dX3_fail_6 hm ?_
    exact r_ret (y := m3_fail) dX3_fail_9 rfl h
set_option maxHeartbeats 4000000 in
set_option maxRecDepth 100000 in
theorem u3_fail_93 {m : Mm} {K : Option Value ⊕ String → Mm → Prop} (hm : St m) {v1 : Int32} {jj2 : Nat} (hjj2 : jj2 < 102) (h : K (.inl none) m) : V m3_fail 93 [some (.ref 12), some (.int v1), some (.ref (235 + 3 * jj2))] [] m K := by
  exact r_ret (y := m3_fail) dX3_fail_93 rfl h
set_option maxHeartbeats 4000000 in
set_option maxRecDepth 100000 in
theorem u8_countWithin {m : Mm} {K : Option Value ⊕ String → Mm → Prop} (hm : St m) {e0 ne0 : Nat} {a1 : Int32} (he0 : isExp m e0 ne0) (h : V m8_countWithin 19 [some (.ref 541), some (.ref e0), some (.int a1), some (.ref (235 + 3 * 0)), some (.int 0), some (.int 1), none] [] (mSetI m (235 + 3 * 0) 2 0) K) : V m8_countWithin 0 [some (.ref 541), some (.ref e0), some (.int a1), none, none, none, none] [] m K := by
  refine r_aload_n (y := m8_countWithin) dX8_countWithin_0 rfl rfl ?_
  refine g_X8_46 (y := m8_countWithin) rfl dX8_countWithin_1 hm ?_
  refine g_X8_90 (y := m8_countWithin) rfl dX8_countWithin_4 hm ?_
  refine r_astore_n (y := m8_countWithin) (L' := [some (.ref 541), some (.ref e0), some (.int a1), some (.ref (235 + 3 * 0)), none, none, none]) dX8_countWithin_7 rfl (Nat.le_of_ble_eq_true rfl) rfl ?_
  refine r_aload_n (y := m8_countWithin) dX8_countWithin_8 rfl rfl ?_
  refine r_iconst (y := m8_countWithin) (v := 0) dX8_countWithin_9 (by decide) ?_
  refine p_X8_94 (y := m8_countWithin) (i := 0) rfl dX8_countWithin_10 hm (by decide) ?_
  refine r_iconst (y := m8_countWithin) (v := 0) dX8_countWithin_13 (by decide) ?_
  refine r_istore (y := m8_countWithin) (L' := [some (.ref 541), some (.ref e0), some (.int a1), some (.ref (235 + 3 * 0)), some (.int 0), none, none]) dX8_countWithin_14 (Nat.le_of_ble_eq_true rfl) rfl ?_
  refine r_iconst (y := m8_countWithin) (v := 1) dX8_countWithin_16 (by decide) ?_
  refine r_istore (y := m8_countWithin) (L' := [some (.ref 541), some (.ref e0), some (.int a1), some (.ref (235 + 3 * 0)), some (.int 0), some (.int 1), none]) dX8_countWithin_17 (Nat.le_of_ble_eq_true rfl) rfl ?_
  exact h
set_option maxHeartbeats 4000000 in
set_option maxRecDepth 100000 in
theorem u8_countWithin_19 {m : Mm} {K : Option Value ⊕ String → Mm → Prop} (hm : St m) {ee1 nn1 : Nat} {v2 : Int32} {jj3 : Nat} {v4 : Int32} {v5 : Int32} (hee1 : isExp m ee1 nn1) (hjj3 : jj3 < 102) (h : ((600 ≤ v5 → K (.inl (some (.int (-1)))) m) ∧ (¬ 600 ≤ v5 → C m3_makeRun [(.ref 12), (.ref ee1)] m (fun o m2 => ∃ x4 : Int32, o = .inl (some (.int x4)) ∧ St m2 ∧ ((¬ x4 = 0 → V m8_countWithin 45 [some (.ref 541), some (.ref ee1), some (.int v2), some (.ref (235 + 3 * jj3)), some (.int v4), some (.int v5), some (.int x4)] [] m2 K) ∧ (x4 = 0 → V m8_countWithin 45 [some (.ref 541), some (.ref ee1), some (.int v2), some (.ref (235 + 3 * jj3)), some (.int (v4 + 1)), some (.int v5), some (.int x4)] [] m2 K)))))) : V m8_countWithin 19 [some (.ref 541), some (.ref ee1), some (.int v2), some (.ref (235 + 3 * jj3)), some (.int v4), some (.int v5), none] [] m K := by
  refine r_iload (y := m8_countWithin) dX8_countWithin_19 rfl ?_
  refine r_sipush (y := m8_countWithin) (v := 600) dX8_countWithin_21 (by decide) ?_
  refine r_icmp_ge (y := m8_countWithin) (tgt := 82) dX8_countWithin_24 (by decide) (fun hc1 => ?_) (fun hc1 => ?_)
  · have h := h.1 hc1
    refine r_iconst (y := m8_countWithin) (v := (-1)) dX8_countWithin_82 (by decide) ?_
    exact r_iret (y := m8_countWithin) dX8_countWithin_83 rfl rfl h
  · have h := h.2 hc1
    refine r_aload_n (y := m8_countWithin) dX8_countWithin_27 rfl rfl ?_
    refine g_X8_46 (y := m8_countWithin) rfl dX8_countWithin_28 hm ?_
    refine r_aload_n (y := m8_countWithin) dX8_countWithin_31 rfl rfl ?_
    refine r_callVN (y := m8_countWithin) (As := [(.ref ee1)]) (b := 12) (ci := 3) dX8_countWithin_32 rfl k3_makeRun lm_X8_68 rfl ⟨by decide, by decide⟩ (so_12 hm) (by decide) rfl (Nat.le_of_ble_eq_true rfl) (C.mono h ?_)
    rintro _ m2 ⟨x4, rfl, hm3, h⟩
    refine ⟨_, rfl, ?_⟩
    refine r_istore (y := m8_countWithin) (L' := [some (.ref 541), some (.ref ee1), some (.int v2), some (.ref (235 + 3 * jj3)), some (.int v4), some (.int v5), some (.int x4)]) dX8_countWithin_35 (Nat.le_of_ble_eq_true rfl) rfl ?_
    refine r_iload (y := m8_countWithin) dX8_countWithin_37 rfl ?_
    refine r_if_ne (y := m8_countWithin) (tgt := 45) dX8_countWithin_39 (by decide) (fun hc5 => ?_) (fun hc5 => ?_)
    · have h := h.1 hc5
      exact h
    · have h := h.2 hc5
      refine r_iinc (y := m8_countWithin) (v := (v4 + 1)) (L' := [some (.ref 541), some (.ref ee1), some (.int v2), some (.ref (235 + 3 * jj3)), some (.int (v4 + 1)), some (.int v5), some (.int x4)]) dX8_countWithin_42 rfl (by rfl) rfl ?_
      exact h
set_option maxHeartbeats 4000000 in
set_option maxRecDepth 100000 in
theorem u8_countWithin_45 {m : Mm} {K : Option Value ⊕ String → Mm → Prop} (hm : St m) {ee1 nn1 : Nat} {v2 : Int32} {jj3 : Nat} {v4 : Int32} {v5 : Int32} {v6 : Int32} (hee1 : isExp m ee1 nn1) (hjj3 : jj3 < 102) (h : ((¬ v6 = 4 → V m8_countWithin 66 [some (.ref 541), some (.ref ee1), some (.int v2), some (.ref (235 + 3 * jj3)), some (.int v4), some (.int v5), some (.int v6)] [] m K) ∧ (v6 = 4 → ((v2 ≤ (mI m (235 + 3 * jj3) 2) → V m8_countWithin 66 [some (.ref 541), some (.ref ee1), some (.int v2), some (.ref (235 + 3 * jj3)), some (.int v4), some (.int v5), some (.int v6)] [] m K) ∧ (¬ v2 ≤ (mI m (235 + 3 * jj3) 2) → C m2_deepen [(.ref (235 + 3 * jj3))] m (fun o m3 => o = .inl none ∧ St m3 ∧ V m8_countWithin 76 [some (.ref 541), some (.ref ee1), some (.int v2), some (.ref (235 + 3 * jj3)), some (.int v4), some (.int v5), some (.int v6)] [] m3 K)))))) : V m8_countWithin 45 [some (.ref 541), some (.ref ee1), some (.int v2), some (.ref (235 + 3 * jj3)), some (.int v4), some (.int v5), some (.int v6)] [] m K := by
  refine r_iload (y := m8_countWithin) dX8_countWithin_45 rfl ?_
  refine r_iconst (y := m8_countWithin) (v := 4) dX8_countWithin_47 (by decide) ?_
  refine r_icmp_ne (y := m8_countWithin) (tgt := 66) dX8_countWithin_48 (by decide) (fun hc1 => ?_) (fun hc1 => ?_)
  · have h := h.1 hc1
    exact h
  · have h := h.2 hc1
    refine r_aload_n (y := m8_countWithin) dX8_countWithin_51 rfl rfl ?_
    refine g_X8_94 (y := m8_countWithin) (i := jj3) rfl dX8_countWithin_52 hm hjj3 ?_
    refine r_iload_n (y := m8_countWithin) dX8_countWithin_55 rfl rfl ?_
    refine r_icmp_ge (y := m8_countWithin) (tgt := 66) dX8_countWithin_56 (by decide) (fun hc2 => ?_) (fun hc2 => ?_)
    · have h := h.1 hc2
      exact h
    · have h := h.2 hc2
      refine r_aload_n (y := m8_countWithin) dX8_countWithin_59 rfl rfl ?_
      refine r_callVN (y := m8_countWithin) (As := []) (b := (235 + 3 * jj3)) (ci := 2) dX8_countWithin_60 rfl k2_deepen lm_X8_109 rfl ⟨by decide, by decide⟩ (so_lv hm hjj3) (by decide) rfl (Nat.le_of_ble_eq_true rfl) (C.mono h ?_)
      rintro _ m3 ⟨rfl, hm4, h⟩
      refine ⟨none, rfl, ?_⟩
      refine r_goto (y := m8_countWithin) (tgt := 76) dX8_countWithin_63 (by decide) ?_
      exact h
set_option maxHeartbeats 4000000 in
set_option maxRecDepth 100000 in
theorem u8_countWithin_66 {m : Mm} {K : Option Value ⊕ String → Mm → Prop} (hm : St m) {ee1 nn1 : Nat} {v2 : Int32} {jj3 : Nat} {v4 : Int32} {v5 : Int32} {v6 : Int32} (hee1 : isExp m ee1 nn1) (hjj3 : jj3 < 102) (h : C m2_advance [(.ref (235 + 3 * jj3))] m (fun o m1 => ∃ x3 : Int32, o = .inl (some (.int x3)) ∧ St m1 ∧ ((¬ x3 = 0 → V m8_countWithin 76 [some (.ref 541), some (.ref ee1), some (.int v2), some (.ref (235 + 3 * jj3)), some (.int v4), some (.int v5), some (.int v6)] [] m1 K) ∧ (x3 = 0 → K (.inl (some (.int v4))) m1)))) : V m8_countWithin 66 [some (.ref 541), some (.ref ee1), some (.int v2), some (.ref (235 + 3 * jj3)), some (.int v4), some (.int v5), some (.int v6)] [] m K := by
  refine r_aload_n (y := m8_countWithin) dX8_countWithin_66 rfl rfl ?_
  refine r_callVN (y := m8_countWithin) (As := []) (b := (235 + 3 * jj3)) (ci := 2) dX8_countWithin_67 rfl k2_advance lm_X8_112 rfl ⟨by decide, by decide⟩ (so_lv hm hjj3) (by decide) rfl (Nat.le_of_ble_eq_true rfl) (C.mono h ?_)
  rintro _ m1 ⟨x3, rfl, hm2, h⟩
  refine ⟨_, rfl, ?_⟩
  refine r_if_ne (y := m8_countWithin) (tgt := 76) dX8_countWithin_70 (by decide) (fun hc4 => ?_) (fun hc4 => ?_)
  · have h := h.1 hc4
    exact h
  · have h := h.2 hc4
    refine r_iload (y := m8_countWithin) dX8_countWithin_73 rfl ?_
    exact r_iret (y := m8_countWithin) dX8_countWithin_75 rfl rfl h
set_option maxHeartbeats 4000000 in
set_option maxRecDepth 100000 in
theorem u8_countWithin_76 {m : Mm} {K : Option Value ⊕ String → Mm → Prop} (hm : St m) {ee1 nn1 : Nat} {v2 : Int32} {jj3 : Nat} {v4 : Int32} {v5 : Int32} {v6 : Int32} (hee1 : isExp m ee1 nn1) (hjj3 : jj3 < 102) (h : V m8_countWithin 19 [some (.ref 541), some (.ref ee1), some (.int v2), some (.ref (235 + 3 * jj3)), some (.int v4), some (.int (v5 + 1)), some (.int v6)] [] m K) : V m8_countWithin 76 [some (.ref 541), some (.ref ee1), some (.int v2), some (.ref (235 + 3 * jj3)), some (.int v4), some (.int v5), some (.int v6)] [] m K := by
  refine r_iinc (y := m8_countWithin) (v := (v5 + 1)) (L' := [some (.ref 541), some (.ref ee1), some (.int v2), some (.ref (235 + 3 * jj3)), some (.int v4), some (.int (v5 + 1)), some (.int v6)]) dX8_countWithin_76 rfl (by rfl) rfl ?_
  refine r_goto (y := m8_countWithin) (tgt := 19) dX8_countWithin_79 (by decide) ?_
  exact h
set_option maxHeartbeats 4000000 in
set_option maxRecDepth 100000 in
theorem u3_match {m : Mm} {K : Option Value ⊕ String → Mm → Prop} (hm : St m) {a0 : Int32} {a1 : Int32} {a2 : Int32}  (h : vp_in a2 3500 ∧ vp_in (mI m 18 (Int32.toNatClampNeg a2)) 102 ∧ ((12 ≤ a0 → V m3_match 27 [some (.ref 12), some (.int a0), some (.int a1), some (.int a2), some (.ref (31 + 2 * (Int32.toNatClampNeg (mI m 18 (Int32.toNatClampNeg a2))))), none, none, none, none] [(.int 0)] m K) ∧ (¬ 12 ≤ a0 → V m3_match 27 [some (.ref 12), some (.int a0), some (.int a1), some (.int a2), some (.ref (31 + 2 * (Int32.toNatClampNeg (mI m 18 (Int32.toNatClampNeg a2))))), none, none, none, none] [(.int 1)] m K))) : V m3_match 0 [some (.ref 12), some (.int a0), some (.int a1), some (.int a2), none, none, none, none, none] [] m K := by
  refine r_aload_n (y := m3_match) dX3_match_0 rfl rfl ?_
  refine g_X3_27 (y := m3_match) rfl dX3_match_1 hm ?_
  refine r_aload_n (y := m3_match) dX3_match_4 rfl rfl ?_
  refine g_X3_12 (y := m3_match) rfl dX3_match_5 hm ?_
  refine g_X3_270 (y := m3_match) rfl dX3_match_8 hm ?_
  refine r_iload_n (y := m3_match) dX3_match_11 rfl rfl ?_
  obtain ⟨hb1, h⟩ := h
  refine r_iald (y := m3_match) (n := 3500) dX3_match_12 (sa_18 hm) hb1 ?_
  obtain ⟨hb2, h⟩ := h
  have hl3 := vp_lt hb2
  refine r_aald (y := m3_match) (n := 102) (r := some (31 + 2 * (Int32.toNatClampNeg (mI m 18 (Int32.toNatClampNeg a2))))) dX3_match_13 (sa_28 hm) (by decide) (by decide) hb2 (sr_sc hm hl3) ?_
  refine r_astore (y := m3_match) (L' := [some (.ref 12), some (.int a0), some (.int a1), some (.int a2), some (.ref (31 + 2 * (Int32.toNatClampNeg (mI m 18 (Int32.toNatClampNeg a2))))), none, none, none, none]) dX3_match_14 (Nat.le_of_ble_eq_true rfl) rfl ?_
  refine r_iload_n (y := m3_match) dX3_match_16 rfl rfl ?_
  refine r_bipush (y := m3_match) (v := 12) dX3_match_17 (by decide) ?_
  refine r_icmp_ge (y := m3_match) (tgt := 26) dX3_match_19 (by decide) (fun hc4 => ?_) (fun hc4 => ?_)
  · have h := h.1 hc4
    refine r_iconst (y := m3_match) (v := 0) dX3_match_26 (by decide) ?_
    exact h
  · have h := h.2 hc4
    refine r_iconst (y := m3_match) (v := 1) dX3_match_22 (by decide) ?_
    refine r_goto (y := m3_match) (tgt := 27) dX3_match_23 (by decide) ?_
    exact h
set_option maxHeartbeats 4000000 in
set_option maxRecDepth 100000 in
theorem u3_match_27 {m : Mm} {K : Option Value ⊕ String → Mm → Prop} (hm : St m) {v1 : Int32} {v2 : Int32} {v3 : Int32} {jj4 : Nat} {s0 : Int32} (hjj4 : jj4 < 102) (h : ((s0 = 0 → ((mR m (31 + 2 * jj4) 2 = none → ((s0 = 0 → K (.inl none) m) ∧ (¬ s0 = 0 → K (.inl none) m))) ∧ (∀ q2 : Nat, mR m (31 + 2 * jj4) 2 = some q2 → V m3_match 47 [some (.ref 12), some (.int v1), some (.int v2), some (.int v3), some (.ref (31 + 2 * jj4)), some (.int s0), none, none, none] [(.ref q2)] m K))) ∧ (¬ s0 = 0 → ((mR m (31 + 2 * jj4) 1 = none → ((s0 = 0 → K (.inl none) m) ∧ (¬ s0 = 0 → K (.inl none) m))) ∧ (∀ q5 : Nat, mR m (31 + 2 * jj4) 1 = some q5 → V m3_match 47 [some (.ref 12), some (.int v1), some (.int v2), some (.int v3), some (.ref (31 + 2 * jj4)), some (.int s0), none, none, none] [(.ref q5)] m K))))) : V m3_match 27 [some (.ref 12), some (.int v1), some (.int v2), some (.int v3), some (.ref (31 + 2 * jj4)), none, none, none, none] [(.int s0)] m K := by
  refine r_istore (y := m3_match) (L' := [some (.ref 12), some (.int v1), some (.int v2), some (.int v3), some (.ref (31 + 2 * jj4)), some (.int s0), none, none, none]) dX3_match_27 (Nat.le_of_ble_eq_true rfl) rfl ?_
  refine r_iload (y := m3_match) dX3_match_29 rfl ?_
  refine r_if_eq (y := m3_match) (tgt := 42) dX3_match_31 (by decide) (fun hc1 => ?_) (fun hc1 => ?_)
  · have h := h.1 hc1
    refine r_aload (y := m3_match) dX3_match_42 rfl ?_
    rcases hq3 : mR m (31 + 2 * jj4) 2 with _ | q2
    · have h := h.1 hq3
      refine g_X3_284 (y := m3_match) (i := jj4) rfl dX3_match_44 hm hjj4 (q := none) hq3 ?_
      refine r_astoreN (y := m3_match) (L' := [some (.ref 12), some (.int v1), some (.int v2), some (.int v3), some (.ref (31 + 2 * jj4)), some (.int s0), some .null, none, none]) dX3_match_47 (Nat.le_of_ble_eq_true rfl) rfl ?_
      refine r_iload (y := m3_match) dX3_match_49 rfl ?_
      refine r_if_eq (y := m3_match) (tgt := 58) dX3_match_51 (by decide) (fun hc4 => ?_) (fun hc4 => ?_)
      · have h := h.1 hc4
        refine r_iload_n (y := m3_match) dX3_match_58 rfl rfl ?_
        refine r_bipush (y := m3_match) (v := 12) dX3_match_59 (by decide) ?_
        refine r_isub (y := m3_match) dX3_match_61 ?_
        refine r_istore (y := m3_match) (L' := [some (.ref 12), some (.int v1), some (.int v2), some (.int v3), some (.ref (31 + 2 * jj4)), some (.int s0), some .null, some (.int (v1 - 12)), none]) dX3_match_62 (Nat.le_of_ble_eq_true rfl) rfl ?_
        refine r_aloadN (y := m3_match) dX3_match_64 rfl ?_
        refine r_ifnullN (y := m3_match) (tgt := 84) dX3_match_66 (by decide) ?_
        exact r_ret (y := m3_match) dX3_match_84 rfl h
      · have h := h.2 hc4
        refine r_iload_n (y := m3_match) dX3_match_54 rfl rfl ?_
        refine r_goto (y := m3_match) (tgt := 62) dX3_match_55 (by decide) ?_
        refine r_istore (y := m3_match) (L' := [some (.ref 12), some (.int v1), some (.int v2), some (.int v3), some (.ref (31 + 2 * jj4)), some (.int s0), some .null, some (.int v1), none]) dX3_match_62 (Nat.le_of_ble_eq_true rfl) rfl ?_
        refine r_aloadN (y := m3_match) dX3_match_64 rfl ?_
        refine r_ifnullN (y := m3_match) (tgt := 84) dX3_match_66 (by decide) ?_
        exact r_ret (y := m3_match) dX3_match_84 rfl h
    · have h := h.2 q2 hq3
      refine g_X3_284 (y := m3_match) (i := jj4) rfl dX3_match_44 hm hjj4 (q := some q2) hq3 ?_
      exact h
  · have h := h.2 hc1
    refine r_aload (y := m3_match) dX3_match_34 rfl ?_
    rcases hq6 : mR m (31 + 2 * jj4) 1 with _ | q5
    · have h := h.1 hq6
      refine g_X3_283 (y := m3_match) (i := jj4) rfl dX3_match_36 hm hjj4 (q := none) hq6 ?_
      refine r_goto (y := m3_match) (tgt := 47) dX3_match_39 (by decide) ?_
      refine r_astoreN (y := m3_match) (L' := [some (.ref 12), some (.int v1), some (.int v2), some (.int v3), some (.ref (31 + 2 * jj4)), some (.int s0), some .null, none, none]) dX3_match_47 (Nat.le_of_ble_eq_true rfl) rfl ?_
      refine r_iload (y := m3_match) dX3_match_49 rfl ?_
      refine r_if_eq (y := m3_match) (tgt := 58) dX3_match_51 (by decide) (fun hc7 => ?_) (fun hc7 => ?_)
      · have h := h.1 hc7
        refine r_iload_n (y := m3_match) dX3_match_58 rfl rfl ?_
        refine r_bipush (y := m3_match) (v := 12) dX3_match_59 (by decide) ?_
        refine r_isub (y := m3_match) dX3_match_61 ?_
        refine r_istore (y := m3_match) (L' := [some (.ref 12), some (.int v1), some (.int v2), some (.int v3), some (.ref (31 + 2 * jj4)), some (.int s0), some .null, some (.int (v1 - 12)), none]) dX3_match_62 (Nat.le_of_ble_eq_true rfl) rfl ?_
        refine r_aloadN (y := m3_match) dX3_match_64 rfl ?_
        refine r_ifnullN (y := m3_match) (tgt := 84) dX3_match_66 (by decide) ?_
        exact r_ret (y := m3_match) dX3_match_84 rfl h
      · have h := h.2 hc7
        refine r_iload_n (y := m3_match) dX3_match_54 rfl rfl ?_
        refine r_goto (y := m3_match) (tgt := 62) dX3_match_55 (by decide) ?_
        refine r_istore (y := m3_match) (L' := [some (.ref 12), some (.int v1), some (.int v2), some (.int v3), some (.ref (31 + 2 * jj4)), some (.int s0), some .null, some (.int v1), none]) dX3_match_62 (Nat.le_of_ble_eq_true rfl) rfl ?_
        refine r_aloadN (y := m3_match) dX3_match_64 rfl ?_
        refine r_ifnullN (y := m3_match) (tgt := 84) dX3_match_66 (by decide) ?_
        exact r_ret (y := m3_match) dX3_match_84 rfl h
    · have h := h.2 q5 hq6
      refine g_X3_283 (y := m3_match) (i := jj4) rfl dX3_match_36 hm hjj4 (q := some q5) hq6 ?_
      refine r_goto (y := m3_match) (tgt := 47) dX3_match_39 (by decide) ?_
      exact h
set_option maxHeartbeats 4000000 in
set_option maxRecDepth 100000 in
theorem u3_match_47 {m : Mm} {K : Option Value ⊕ String → Mm → Prop} (hm : St m) {v1 : Int32} {v2 : Int32} {v3 : Int32} {jj4 : Nat} {v5 : Int32} {s0 : Nat} (hjj4 : jj4 < 102) (h : ((v5 = 0 → V m3_match 62 [some (.ref 12), some (.int v1), some (.int v2), some (.int v3), some (.ref (31 + 2 * jj4)), some (.int v5), some (.ref s0), none, none] [(.int (v1 - 12))] m K) ∧ (¬ v5 = 0 → V m3_match 62 [some (.ref 12), some (.int v1), some (.int v2), some (.int v3), some (.ref (31 + 2 * jj4)), some (.int v5), some (.ref s0), none, none] [(.int v1)] m K))) : V m3_match 47 [some (.ref 12), some (.int v1), some (.int v2), some (.int v3), some (.ref (31 + 2 * jj4)), some (.int v5), none, none, none] [(.ref s0)] m K := by
  refine r_astore (y := m3_match) (L' := [some (.ref 12), some (.int v1), some (.int v2), some (.int v3), some (.ref (31 + 2 * jj4)), some (.int v5), some (.ref s0), none, none]) dX3_match_47 (Nat.le_of_ble_eq_true rfl) rfl ?_
  refine r_iload (y := m3_match) dX3_match_49 rfl ?_
  refine r_if_eq (y := m3_match) (tgt := 58) dX3_match_51 (by decide) (fun hc1 => ?_) (fun hc1 => ?_)
  · have h := h.1 hc1
    refine r_iload_n (y := m3_match) dX3_match_58 rfl rfl ?_
    refine r_bipush (y := m3_match) (v := 12) dX3_match_59 (by decide) ?_
    refine r_isub (y := m3_match) dX3_match_61 ?_
    exact h
  · have h := h.2 hc1
    refine r_iload_n (y := m3_match) dX3_match_54 rfl rfl ?_
    refine r_goto (y := m3_match) (tgt := 62) dX3_match_55 (by decide) ?_
    exact h
set_option maxHeartbeats 4000000 in
set_option maxRecDepth 100000 in
theorem u3_match_62 {m : Mm} {K : Option Value ⊕ String → Mm → Prop} (hm : St m) {v1 : Int32} {v2 : Int32} {v3 : Int32} {jj4 : Nat} {v5 : Int32} {ee6 nn6 : Nat} {s0 : Int32} (hjj4 : jj4 < 102) (hee6 : isExp m ee6 nn6) (h : ((s0 < 0 → V m3_match 84 [some (.ref 12), some (.int v1), some (.int v2), some (.int v3), some (.ref (31 + 2 * jj4)), some (.int v5), some (.ref ee6), some (.int s0), none] [] m K) ∧ (¬ s0 < 0 → ((s0 < (mI m ee6 0) → vp_in s0 nn6 ∧ ((¬ (mI m (ee6 + 1) (Int32.toNatClampNeg s0)) = 0 → C m10_find [(.ref 13), (.int v2)] m (fun o m5 => ∃ x7 : Int32, o = .inl (some (.int x7)) ∧ St m5 ∧ C m3_isForced [(.ref 12), (.int x7)] m5 (fun o m8 => ∃ x10 : Int32, o = .inl (some (.int x10)) ∧ St m8 ∧ ((¬ x10 = 0 → isExp m8 ee6 nn6 ∧ vp_in s0 nn6 ∧ C m3_isKind [(.ref 12), (.int x7), (.int (mI m8 (ee6 + 2) (Int32.toNatClampNeg s0))), (.int v3)] m8 (fun o m14 => ∃ x16 : Int32, o = .inl (some (.int x16)) ∧ St m14 ∧ ((x16 = 0 → V m3_match 188 [some (.ref 12), some (.int v1), some (.int v2), some (.int v3), some (.ref (31 + 2 * jj4)), some (.int v5), some (.ref ee6), some (.int s0), some (.int x7)] [] m14 K) ∧ (¬ x16 = 0 → C m3_matchParts [(.ref 12), (.ref ee6), (.int s0), (.int (v1 - s0)), (.int x7), (.int v3)] m14 (fun o m18 => o = .inl none ∧ St m18 ∧ V m3_match 188 [some (.ref 12), some (.int v1), some (.int v2), some (.int v3), some (.ref (31 + 2 * jj4)), some (.int v5), some (.ref ee6), some (.int s0), some (.int x7)] [] m18 K))))) ∧ (x10 = 0 → C m9_push [(.ref 23), (.int 2), (.int v1), (.int v2), (.int v3)] m8 (fun o m20 => o = .inl none ∧ St m20 ∧ C m9_push_ [(.ref 23), (.int 0), (.int x7)] m20 (fun o m22 => o = .inl none ∧ St m22 ∧ V m3_match 188 [some (.ref 12), some (.int v1), some (.int v2), some (.int v3), some (.ref (31 + 2 * jj4)), some (.int v5), some (.ref ee6), some (.int s0), some (.int x7)] [] m22 K))))))) ∧ ((mI m (ee6 + 1) (Int32.toNatClampNeg s0)) = 0 → vp_in s0 nn6 ∧ vp_in (mI m (ee6 + 2) (Int32.toNatClampNeg s0)) 6 ∧ K (.inl none) (mSetI m (32 + 2 * jj4) (Int32.toNatClampNeg (mI m (ee6 + 2) (Int32.toNatClampNeg s0))) v2)))) ∧ (¬ s0 < (mI m ee6 0) → V m3_match 84 [some (.ref 12), some (.int v1), some (.int v2), some (.int v3), some (.ref (31 + 2 * jj4)), some (.int v5), some (.ref ee6), some (.int s0), none] [] m K))))) : V m3_match 62 [some (.ref 12), some (.int v1), some (.int v2), some (.int v3), some (.ref (31 + 2 * jj4)), some (.int v5), some (.ref ee6), none, none] [(.int s0)] m K := by
  refine r_istore (y := m3_match) (L' := [some (.ref 12), some (.int v1), some (.int v2), some (.int v3), some (.ref (31 + 2 * jj4)), some (.int v5), some (.ref ee6), some (.int s0), none]) dX3_match_62 (Nat.le_of_ble_eq_true rfl) rfl ?_
  refine r_aload (y := m3_match) dX3_match_64 rfl ?_
  refine r_ifnull (y := m3_match) dX3_match_66 ?_
  refine r_iload (y := m3_match) dX3_match_69 rfl ?_
  refine r_if_lt (y := m3_match) (tgt := 84) dX3_match_71 (by decide) (fun hc1 => ?_) (fun hc1 => ?_)
  · have h := h.1 hc1
    exact h
  · have h := h.2 hc1
    refine r_iload (y := m3_match) dX3_match_74 rfl ?_
    refine r_aload (y := m3_match) dX3_match_76 rfl ?_
    refine g_X3_84 (y := m3_match) rfl dX3_match_78 hee6 ?_
    refine r_icmp_lt (y := m3_match) (tgt := 85) dX3_match_81 (by decide) (fun hc2 => ?_) (fun hc2 => ?_)
    · have h := h.1 hc2
      refine r_aload (y := m3_match) dX3_match_85 rfl ?_
      refine g_X3_199 (y := m3_match) rfl dX3_match_87 hee6 ?_
      refine r_iload (y := m3_match) dX3_match_90 rfl ?_
      obtain ⟨hb3, h⟩ := h
      refine r_iald (y := m3_match) (n := nn6) dX3_match_92 (hee6.2 1 (by decide) (by decide)).2 hb3 ?_
      refine r_if_ne (y := m3_match) (tgt := 112) dX3_match_93 (by decide) (fun hc4 => ?_) (fun hc4 => ?_)
      · have h := h.1 hc4
        refine r_aload_n (y := m3_match) dX3_match_112 rfl rfl ?_
        refine g_X3_12 (y := m3_match) rfl dX3_match_113 hm ?_
        refine r_iload_n (y := m3_match) dX3_match_116 rfl rfl ?_
        refine r_callVN (y := m3_match) (As := [(.int v2)]) (b := 13) (ci := 10) dX3_match_117 rfl k10_find lm_X3_123 rfl ⟨by decide, by decide⟩ (so_13 hm) (by decide) rfl (Nat.le_of_ble_eq_true rfl) (C.mono h ?_)
        rintro _ m5 ⟨x7, rfl, hm6, h⟩
        refine ⟨_, rfl, ?_⟩
        refine r_istore (y := m3_match) (L' := [some (.ref 12), some (.int v1), some (.int v2), some (.int v3), some (.ref (31 + 2 * jj4)), some (.int v5), some (.ref ee6), some (.int s0), some (.int x7)]) dX3_match_120 (Nat.le_of_ble_eq_true rfl) rfl ?_
        refine r_aload_n (y := m3_match) dX3_match_122 rfl rfl ?_
        refine r_iload (y := m3_match) dX3_match_123 rfl ?_
        refine r_callV (y := m3_match) (As := [(.int x7)]) (b := 12) (ci := 3) dX3_match_125 rfl k3_isForced lm_X3_237 rfl ⟨by decide, by decide⟩ (so_12 hm6) (by decide) rfl (Nat.le_of_ble_eq_true rfl) (C.mono h ?_)
        rintro _ m8 ⟨x10, rfl, hm9, h⟩
        refine ⟨_, rfl, ?_⟩
        refine r_if_ne (y := m3_match) (tgt := 155) dX3_match_128 (by decide) (fun hc11 => ?_) (fun hc11 => ?_)
        · have h := h.1 hc11
          refine r_aload_n (y := m3_match) dX3_match_155 rfl rfl ?_
          refine r_iload (y := m3_match) dX3_match_156 rfl ?_
          refine r_aload (y := m3_match) dX3_match_158 rfl ?_
          obtain ⟨hx12, h⟩ := h
          refine g_X3_202 (y := m3_match) rfl dX3_match_160 hx12 ?_
          refine r_iload (y := m3_match) dX3_match_163 rfl ?_
          obtain ⟨hb13, h⟩ := h
          refine r_iald (y := m3_match) (n := nn6) dX3_match_165 (hx12.2 2 (by decide) (by decide)).2 hb13 ?_
          refine r_iload_n (y := m3_match) dX3_match_166 rfl rfl ?_
          refine r_callV (y := m3_match) (As := [(.int x7), (.int (mI m8 (ee6 + 2) (Int32.toNatClampNeg s0))), (.int v3)]) (b := 12) (ci := 3) dX3_match_167 rfl k3_isKind lm_X3_285 rfl ⟨by decide, by decide⟩ (so_12 hm9) (by decide) rfl (Nat.le_of_ble_eq_true rfl) (C.mono h ?_)
          rintro _ m14 ⟨x16, rfl, hm15, h⟩
          refine ⟨_, rfl, ?_⟩
          refine r_if_eq (y := m3_match) (tgt := 188) dX3_match_170 (by decide) (fun hc17 => ?_) (fun hc17 => ?_)
          · have h := h.1 hc17
            exact h
          · have h := h.2 hc17
            refine r_aload_n (y := m3_match) dX3_match_173 rfl rfl ?_
            refine r_aload (y := m3_match) dX3_match_174 rfl ?_
            refine r_iload (y := m3_match) dX3_match_176 rfl ?_
            refine r_iload_n (y := m3_match) dX3_match_178 rfl rfl ?_
            refine r_iload (y := m3_match) dX3_match_179 rfl ?_
            refine r_isub (y := m3_match) dX3_match_181 ?_
            refine r_iload (y := m3_match) dX3_match_182 rfl ?_
            refine r_iload_n (y := m3_match) dX3_match_184 rfl rfl ?_
            refine r_callV (y := m3_match) (As := [(.ref ee6), (.int s0), (.int (v1 - s0)), (.int x7), (.int v3)]) (b := 12) (ci := 3) dX3_match_185 rfl k3_matchParts lm_X3_289 rfl ⟨by decide, by decide⟩ (so_12 hm15) (by decide) rfl (Nat.le_of_ble_eq_true rfl) (C.mono h ?_)
            rintro _ m18 ⟨rfl, hm19, h⟩
            refine ⟨none, rfl, ?_⟩
            exact h
        · have h := h.2 hc11
          refine r_aload_n (y := m3_match) dX3_match_131 rfl rfl ?_
          refine g_X3_21 (y := m3_match) rfl dX3_match_132 hm9 ?_
          refine r_iconst (y := m3_match) (v := 2) dX3_match_135 (by decide) ?_
          refine r_iload_n (y := m3_match) dX3_match_136 rfl rfl ?_
          refine r_iload_n (y := m3_match) dX3_match_137 rfl rfl ?_
          refine r_iload_n (y := m3_match) dX3_match_138 rfl rfl ?_
          refine r_callVN (y := m3_match) (As := [(.int 2), (.int v1), (.int v2), (.int v3)]) (b := 23) (ci := 9) dX3_match_139 rfl k9_push lm_X3_186 rfl ⟨by decide, by decide⟩ (so_23 hm9) (by decide) rfl (Nat.le_of_ble_eq_true rfl) (C.mono h ?_)
          rintro _ m20 ⟨rfl, hm21, h⟩
          refine ⟨none, rfl, ?_⟩
          refine r_aload_n (y := m3_match) dX3_match_142 rfl rfl ?_
          refine g_X3_21 (y := m3_match) rfl dX3_match_143 hm21 ?_
          refine r_iconst (y := m3_match) (v := 0) dX3_match_146 (by decide) ?_
          refine r_iload (y := m3_match) dX3_match_147 rfl ?_
          refine r_callVN (y := m3_match) (As := [(.int 0), (.int x7)]) (b := 23) (ci := 9) dX3_match_149 rfl k9_push_ lm_X3_93 rfl ⟨by decide, by decide⟩ (so_23 hm21) (by decide) rfl (Nat.le_of_ble_eq_true rfl) (C.mono h ?_)
          rintro _ m22 ⟨rfl, hm23, h⟩
          refine ⟨none, rfl, ?_⟩
          refine r_goto (y := m3_match) (tgt := 188) dX3_match_152 (by decide) ?_
          exact h
      · have h := h.2 hc4
        refine r_aload (y := m3_match) dX3_match_96 rfl ?_
        refine g_X3_192 (y := m3_match) (i := jj4) rfl dX3_match_98 hm hjj4 ?_
        refine r_aload (y := m3_match) dX3_match_101 rfl ?_
        refine g_X3_202 (y := m3_match) rfl dX3_match_103 hee6 ?_
        refine r_iload (y := m3_match) dX3_match_106 rfl ?_
        obtain ⟨hb24, h⟩ := h
        refine r_iald (y := m3_match) (n := nn6) dX3_match_108 (hee6.2 2 (by decide) (by decide)).2 hb24 ?_
        refine r_iload_n (y := m3_match) dX3_match_109 rfl rfl ?_
        obtain ⟨hb25, h⟩ := h
        refine r_iast (y := m3_match) (n := 6) dX3_match_110 (sa_st hm hjj4) hb25 ?_
        exact r_ret (y := m3_match) dX3_match_111 rfl h
    · have h := h.2 hc2
      exact h
set_option maxHeartbeats 4000000 in
set_option maxRecDepth 100000 in
theorem u3_match_84 {m : Mm} {K : Option Value ⊕ String → Mm → Prop} (hm : St m) {v1 : Int32} {v2 : Int32} {v3 : Int32} {jj4 : Nat} {v5 : Int32} {ee6 nn6 : Nat} {v7 : Int32} (hjj4 : jj4 < 102) (hee6 : isExp m ee6 nn6) (h : K (.inl none) m) : V m3_match 84 [some (.ref 12), some (.int v1), some (.int v2), some (.int v3), some (.ref (31 + 2 * jj4)), some (.int v5), some (.ref ee6), some (.int v7), none] [] m K := by
  exact r_ret (y := m3_match) dX3_match_84 rfl h
set_option maxHeartbeats 4000000 in
set_option maxRecDepth 100000 in
theorem u3_match_188 {m : Mm} {K : Option Value ⊕ String → Mm → Prop} (hm : St m) {v1 : Int32} {v2 : Int32} {v3 : Int32} {jj4 : Nat} {v5 : Int32} {ee6 nn6 : Nat} {v7 : Int32} {v8 : Int32} (hjj4 : jj4 < 102) (hee6 : isExp m ee6 nn6) (h : K (.inl none) m) : V m3_match 188 [some (.ref 12), some (.int v1), some (.int v2), some (.int v3), some (.ref (31 + 2 * jj4)), some (.int v5), some (.ref ee6), some (.int v7), some (.int v8)] [] m K := by
  exact r_ret (y := m3_match) dX3_match_188 rfl h
