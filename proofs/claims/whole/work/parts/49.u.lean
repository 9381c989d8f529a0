/-! written by gen/joins.py -/
set_option maxHeartbeats 4000000 in
set_option maxRecDepth 100000 in
theorem u12_rule {m : Mm} {K : Option Value ⊕ String → Mm → Prop} (hm : St m) {a0 : Int32} {a1 : Int32} {a2 : Int32} {a3 : Int32}  (h : C m12_isFunction [(.ref 668), (.int a0)] m (fun o m1 => ∃ x3 : Int32, o = .inl (some (.int x3)) ∧ St m1 ∧ ((x3 = 0 → V m12_rule 33 [some (.ref 668), some (.int a0), some (.int a1), some (.int a2), some (.int a3), none, none, none] [(.ref 668)] m1 K) ∧ (¬ x3 = 0 → vp_in a0 8 ∧ C m12_areParts [(.ref 668), (.int (mI m1 669 (Int32.toNatClampNeg a0))), (.int a1), (.int a2)] m1 (fun o m6 => ∃ x8 : Int32, o = .inl (some (.int x8)) ∧ St m6 ∧ ((x8 = 0 → V m12_rule 33 [some (.ref 668), some (.int a0), some (.int a1), some (.int a2), some (.int a3), none, none, none] [(.ref 668)] m6 K) ∧ (¬ x8 = 0 → C m12_isNode [(.ref 668), (.int a3)] m6 (fun o m10 => ∃ x12 : Int32, o = .inl (some (.int x12)) ∧ St m10 ∧ ((¬ x12 = 0 → V m12_rule 38 [some (.ref 668), some (.int a0), some (.int a1), some (.int a2), some (.int a3), none, none, none] [(.int 0), (.ref 668)] m10 K) ∧ (x12 = 0 → V m12_rule 33 [some (.ref 668), some (.int a0), some (.int a1), some (.int a2), some (.int a3), none, none, none] [(.ref 668)] m10 K)))))))))) : V m12_rule 0 [some (.ref 668), some (.int a0), some (.int a1), some (.int a2), some (.int a3), none, none, none] [] m K := by
  refine r_aload_n (y := m12_rule) dX12_rule_0 rfl rfl ?_
  refine r_aload_n (y := m12_rule) dX12_rule_1 rfl rfl ?_
  refine r_iload_n (y := m12_rule) dX12_rule_2 rfl rfl ?_
  refine r_callV (y := m12_rule) (As := [(.int a0)]) (b := 668) (ci := 12) dX12_rule_3 rfl k12_isFunction lm_X12_180 rfl ⟨by decide, by decide⟩ (so_668 hm) (by decide) rfl (Nat.le_of_ble_eq_true rfl) (C.mono h ?_)
  rintro _ m1 ⟨x3, rfl, hm2, h⟩
  refine ⟨_, rfl, ?_⟩
  refine r_if_eq (y := m12_rule) (tgt := 33) dX12_rule_6 (by decide) (fun hc4 => ?_) (fun hc4 => ?_)
  · have h := h.1 hc4
    exact h
  · have h := h.2 hc4
    refine r_aload_n (y := m12_rule) dX12_rule_9 rfl rfl ?_
    refine r_aload_n (y := m12_rule) dX12_rule_10 rfl rfl ?_
    refine g_X12_7 (y := m12_rule) rfl dX12_rule_11 hm2 ?_
    refine r_iload_n (y := m12_rule) dX12_rule_14 rfl rfl ?_
    obtain ⟨hb5, h⟩ := h
    refine r_iald (y := m12_rule) (n := 8) dX12_rule_15 (sa_669 hm2) hb5 ?_
    refine r_iload_n (y := m12_rule) dX12_rule_16 rfl rfl ?_
    refine r_iload_n (y := m12_rule) dX12_rule_17 rfl rfl ?_
    refine r_callV (y := m12_rule) (As := [(.int (mI m1 669 (Int32.toNatClampNeg a0))), (.int a1), (.int a2)]) (b := 668) (ci := 12) dX12_rule_18 rfl k12_areParts lm_X12_177 rfl ⟨by decide, by decide⟩ (so_668 hm2) (by decide) rfl (Nat.le_of_ble_eq_true rfl) (C.mono h ?_)
    rintro _ m6 ⟨x8, rfl, hm7, h⟩
    refine ⟨_, rfl, ?_⟩
    refine r_if_eq (y := m12_rule) (tgt := 33) dX12_rule_21 (by decide) (fun hc9 => ?_) (fun hc9 => ?_)
    · have h := h.1 hc9
      exact h
    · have h := h.2 hc9
      refine r_aload_n (y := m12_rule) dX12_rule_24 rfl rfl ?_
      refine r_iload (y := m12_rule) dX12_rule_25 rfl ?_
      refine r_callV (y := m12_rule) (As := [(.int a3)]) (b := 668) (ci := 12) dX12_rule_27 rfl k12_isNode lm_X12_169 rfl ⟨by decide, by decide⟩ (so_668 hm7) (by decide) rfl (Nat.le_of_ble_eq_true rfl) (C.mono h ?_)
      rintro _ m10 ⟨x12, rfl, hm11, h⟩
      refine ⟨_, rfl, ?_⟩
      refine r_if_ne (y := m12_rule) (tgt := 37) dX12_rule_30 (by decide) (fun hc13 => ?_) (fun hc13 => ?_)
      · have h := h.1 hc13
        refine r_iconst (y := m12_rule) (v := 0) dX12_rule_37 (by decide) ?_
        exact h
      · have h := h.2 hc13
        exact h
set_option maxHeartbeats 4000000 in
set_option maxRecDepth 100000 in
theorem u12_rule_33 {m : Mm} {K : Option Value ⊕ String → Mm → Prop} (hm : St m) {v1 : Int32} {v2 : Int32} {v3 : Int32} {v4 : Int32}  (h : V m12_rule 38 [some (.ref 668), some (.int v1), some (.int v2), some (.int v3), some (.int v4), none, none, none] [(.int 1), (.ref 668)] m K) : V m12_rule 33 [some (.ref 668), some (.int v1), some (.int v2), some (.int v3), some (.int v4), none, none, none] [(.ref 668)] m K := by
  refine r_iconst (y := m12_rule) (v := 1) dX12_rule_33 (by decide) ?_
  refine r_goto (y := m12_rule) (tgt := 38) dX12_rule_34 (by decide) ?_
  exact h
set_option maxHeartbeats 4000000 in
set_option maxRecDepth 100000 in
theorem u12_rule_38 {m : Mm} {K : Option Value ⊕ String → Mm → Prop} (hm : St m) {v1 : Int32} {v2 : Int32} {v3 : Int32} {v4 : Int32} {s1 : Int32}  (h : ((s1 ≤ 0 → vp_in v1 8 ∧ (((mI m 669 (Int32.toNatClampNeg v1)) ≤ 0 → V m12_rule 73 [some (.ref 668), some (.int v1), some (.int v2), some (.int v3), some (.int v4), some (.int (mI m 669 (Int32.toNatClampNeg v1))), none, none] [(.int 0)] (mSetI m 668 12 s1) K) ∧ (¬ (mI m 669 (Int32.toNatClampNeg v1)) ≤ 0 → C m12_patternNames [(.ref 668), (.int v2), (.int 0)] (mSetI m 668 12 s1) (fun o m4 => ∃ x6 : Int32, o = .inl (some (.int x6)) ∧ St m4 ∧ V m12_rule 73 [some (.ref 668), some (.int v1), some (.int v2), some (.int v3), some (.int v4), some (.int (mI m 669 (Int32.toNatClampNeg v1))), none, none] [(.int x6)] m4 K)))) ∧ (¬ s1 ≤ 0 → K (.inl (some (.int 0))) (mSetI m 668 12 s1)))) : V m12_rule 38 [some (.ref 668), some (.int v1), some (.int v2), some (.int v3), some (.int v4), none, none, none] [(.int s1), (.ref 668)] m K := by
  refine p_X12_147 (y := m12_rule) rfl dX12_rule_38 hm ?_
  refine r_aload_n (y := m12_rule) dX12_rule_41 rfl rfl ?_
  refine g_X12_147 (y := m12_rule) rfl dX12_rule_42 (St.i hm) ?_
  refine V.top (b := s1) (by first | rfl | simp [mI_set, mI_setR]) ?_
  refine r_if_le (y := m12_rule) (tgt := 50) dX12_rule_45 (by decide) (fun hc1 => ?_) (fun hc1 => ?_)
  · have h := h.1 hc1
    refine r_aload_n (y := m12_rule) dX12_rule_50 rfl rfl ?_
    refine g_X12_7 (y := m12_rule) rfl dX12_rule_51 (St.i hm) ?_
    refine r_iload_n (y := m12_rule) dX12_rule_54 rfl rfl ?_
    obtain ⟨hb2, h⟩ := h
    refine r_iald (y := m12_rule) (n := 8) dX12_rule_55 (sa_669 (St.i hm)) hb2 ?_
    refine V.top (b := (mI m 669 (Int32.toNatClampNeg v1))) (by first | rfl | simp [mI_set, mI_setR]) ?_
    refine r_istore (y := m12_rule) (L' := [some (.ref 668), some (.int v1), some (.int v2), some (.int v3), some (.int v4), some (.int (mI m 669 (Int32.toNatClampNeg v1))), none, none]) dX12_rule_56 (Nat.le_of_ble_eq_true rfl) rfl ?_
    refine r_iload (y := m12_rule) dX12_rule_58 rfl ?_
    refine r_if_le (y := m12_rule) (tgt := 72) dX12_rule_60 (by decide) (fun hc3 => ?_) (fun hc3 => ?_)
    · have h := h.1 hc3
      refine r_iconst (y := m12_rule) (v := 0) dX12_rule_72 (by decide) ?_
      exact h
    · have h := h.2 hc3
      refine r_aload_n (y := m12_rule) dX12_rule_63 rfl rfl ?_
      refine r_iload_n (y := m12_rule) dX12_rule_64 rfl rfl ?_
      refine r_iconst (y := m12_rule) (v := 0) dX12_rule_65 (by decide) ?_
      refine r_callV (y := m12_rule) (As := [(.int v2), (.int 0)]) (b := 668) (ci := 12) dX12_rule_66 rfl k12_patternNames lm_X12_187 rfl ⟨by decide, by decide⟩ (so_668 (St.i hm)) (by decide) rfl (Nat.le_of_ble_eq_true rfl) (C.mono h ?_)
      rintro _ m4 ⟨x6, rfl, hm5, h⟩
      refine ⟨_, rfl, ?_⟩
      refine r_goto (y := m12_rule) (tgt := 73) dX12_rule_69 (by decide) ?_
      exact h
  · have h := h.2 hc1
    refine r_iconst (y := m12_rule) (v := 0) dX12_rule_48 (by decide) ?_
    exact r_iret (y := m12_rule) dX12_rule_49 rfl rfl h
set_option maxHeartbeats 4000000 in
set_option maxRecDepth 100000 in
theorem u12_rule_73 {m : Mm} {K : Option Value ⊕ String → Mm → Prop} (hm : St m) {v1 : Int32} {v2 : Int32} {v3 : Int32} {v4 : Int32} {v5 : Int32} {s0 : Int32}  (h : ((v5 ≤ 1 → V m12_rule 93 [some (.ref 668), some (.int v1), some (.int v2), some (.int v3), some (.int v4), some (.int v5), some (.int s0), none] [(.int s0)] m K) ∧ (¬ v5 ≤ 1 → C m12_patternNames [(.ref 668), (.int v3), (.int s0)] m (fun o m2 => ∃ x4 : Int32, o = .inl (some (.int x4)) ∧ St m2 ∧ V m12_rule 93 [some (.ref 668), some (.int v1), some (.int v2), some (.int v3), some (.int v4), some (.int v5), some (.int s0), none] [(.int x4)] m2 K)))) : V m12_rule 73 [some (.ref 668), some (.int v1), some (.int v2), some (.int v3), some (.int v4), some (.int v5), none, none] [(.int s0)] m K := by
  refine r_istore (y := m12_rule) (L' := [some (.ref 668), some (.int v1), some (.int v2), some (.int v3), some (.int v4), some (.int v5), some (.int s0), none]) dX12_rule_73 (Nat.le_of_ble_eq_true rfl) rfl ?_
  refine r_iload (y := m12_rule) dX12_rule_75 rfl ?_
  refine r_iconst (y := m12_rule) (v := 1) dX12_rule_77 (by decide) ?_
  refine r_icmp_le (y := m12_rule) (tgt := 91) dX12_rule_78 (by decide) (fun hc1 => ?_) (fun hc1 => ?_)
  · have h := h.1 hc1
    refine r_iload (y := m12_rule) dX12_rule_91 rfl ?_
    exact h
  · have h := h.2 hc1
    refine r_aload_n (y := m12_rule) dX12_rule_81 rfl rfl ?_
    refine r_iload_n (y := m12_rule) dX12_rule_82 rfl rfl ?_
    refine r_iload (y := m12_rule) dX12_rule_83 rfl ?_
    refine r_callV (y := m12_rule) (As := [(.int v3), (.int s0)]) (b := 668) (ci := 12) dX12_rule_85 rfl k12_patternNames lm_X12_187 rfl ⟨by decide, by decide⟩ (so_668 hm) (by decide) rfl (Nat.le_of_ble_eq_true rfl) (C.mono h ?_)
    rintro _ m2 ⟨x4, rfl, hm3, h⟩
    refine ⟨_, rfl, ?_⟩
    refine r_goto (y := m12_rule) (tgt := 93) dX12_rule_88 (by decide) ?_
    exact h
set_option maxHeartbeats 4000000 in
set_option maxRecDepth 100000 in
theorem u12_rule_93 {m : Mm} {K : Option Value ⊕ String → Mm → Prop} (hm : St m) {v1 : Int32} {v2 : Int32} {v3 : Int32} {v4 : Int32} {v5 : Int32} {v6 : Int32} {s0 : Int32}  (h : ((¬ s0 = (-1) → ((¬ (mI m 668 9) = 24 → V m12_rule 120 [some (.ref 668), some (.int v1), some (.int v2), some (.int v3), some (.int v4), some (.int v5), some (.int s0), none] [(.int 0), (.ref 668)] m K) ∧ ((mI m 668 9) = 24 → V m12_rule 120 [some (.ref 668), some (.int v1), some (.int v2), some (.int v3), some (.int v4), some (.int v5), some (.int s0), none] [(.int 3), (.ref 668)] m K))) ∧ (s0 = (-1) → V m12_rule 120 [some (.ref 668), some (.int v1), some (.int v2), some (.int v3), some (.int v4), some (.int v5), some (.int s0), none] [(.int 2), (.ref 668)] m K))) : V m12_rule 93 [some (.ref 668), some (.int v1), some (.int v2), some (.int v3), some (.int v4), some (.int v5), some (.int v6), none] [(.int s0)] m K := by
  refine r_istore (y := m12_rule) (L' := [some (.ref 668), some (.int v1), some (.int v2), some (.int v3), some (.int v4), some (.int v5), some (.int s0), none]) dX12_rule_93 (Nat.le_of_ble_eq_true rfl) rfl ?_
  refine r_aload_n (y := m12_rule) dX12_rule_95 rfl rfl ?_
  refine r_iload (y := m12_rule) dX12_rule_96 rfl ?_
  refine r_iconst (y := m12_rule) (v := (-1)) dX12_rule_98 (by decide) ?_
  refine r_icmp_ne (y := m12_rule) (tgt := 106) dX12_rule_99 (by decide) (fun hc1 => ?_) (fun hc1 => ?_)
  · have h := h.1 hc1
    refine r_aload_n (y := m12_rule) dX12_rule_106 rfl rfl ?_
    refine g_X12_191 (y := m12_rule) rfl dX12_rule_107 hm ?_
    refine r_bipush (y := m12_rule) (v := 24) dX12_rule_110 (by decide) ?_
    refine r_icmp_ne (y := m12_rule) (tgt := 119) dX12_rule_112 (by decide) (fun hc2 => ?_) (fun hc2 => ?_)
    · have h := h.1 hc2
      refine r_iconst (y := m12_rule) (v := 0) dX12_rule_119 (by decide) ?_
      exact h
    · have h := h.2 hc2
      refine r_iconst (y := m12_rule) (v := 3) dX12_rule_115 (by decide) ?_
      refine r_goto (y := m12_rule) (tgt := 120) dX12_rule_116 (by decide) ?_
      exact h
  · have h := h.2 hc1
    refine r_iconst (y := m12_rule) (v := 2) dX12_rule_102 (by decide) ?_
    refine r_goto (y := m12_rule) (tgt := 120) dX12_rule_103 (by decide) ?_
    exact h
set_option maxHeartbeats 4000000 in
set_option maxRecDepth 100000 in
theorem u12_rule_120 {m : Mm} {K : Option Value ⊕ String → Mm → Prop} (hm : St m) {v1 : Int32} {v2 : Int32} {v3 : Int32} {v4 : Int32} {v5 : Int32} {v6 : Int32} {s1 : Int32}  (h : ((s1 ≤ 0 → V m12_rule 135 [some (.ref 668), some (.int v1), some (.int v2), some (.int v3), some (.int v4), some (.int v5), some (.int v6), some (.int 0)] [] (mSetI m 668 12 s1) K) ∧ (¬ s1 ≤ 0 → K (.inl (some (.int 0))) (mSetI m 668 12 s1)))) : V m12_rule 120 [some (.ref 668), some (.int v1), some (.int v2), some (.int v3), some (.int v4), some (.int v5), some (.int v6), none] [(.int s1), (.ref 668)] m K := by
  refine p_X12_147 (y := m12_rule) rfl dX12_rule_120 hm ?_
  refine r_aload_n (y := m12_rule) dX12_rule_123 rfl rfl ?_
  refine g_X12_147 (y := m12_rule) rfl dX12_rule_124 (St.i hm) ?_
  refine V.top (b := s1) (by first | rfl | simp [mI_set, mI_setR]) ?_
  refine r_if_le (y := m12_rule) (tgt := 132) dX12_rule_127 (by decide) (fun hc1 => ?_) (fun hc1 => ?_)
  · have h := h.1 hc1
    refine r_iconst (y := m12_rule) (v := 0) dX12_rule_132 (by decide) ?_
    refine r_istore (y := m12_rule) (L' := [some (.ref 668), some (.int v1), some (.int v2), some (.int v3), some (.int v4), some (.int v5), some (.int v6), some (.int 0)]) dX12_rule_133 (Nat.le_of_ble_eq_true rfl) rfl ?_
    exact h
  · have h := h.2 hc1
    refine r_iconst (y := m12_rule) (v := 0) dX12_rule_130 (by decide) ?_
    exact r_iret (y := m12_rule) dX12_rule_131 rfl rfl h
set_option maxHeartbeats 4000000 in
set_option maxRecDepth 100000 in
theorem u12_rule_135 {m : Mm} {K : Option Value ⊕ String → Mm → Prop} (hm : St m) {v1 : Int32} {v2 : Int32} {v3 : Int32} {v4 : Int32} {v5 : Int32} {v6 : Int32} {v7 : Int32}  (h : vp_in v7 24 ∧ (((mI m 675 (Int32.toNatClampNeg v7)) = 0 → vp_in v7 24 ∧ ((v5 ≤ 0 → V m12_rule 175 [some (.ref 668), some (.int v1), some (.int v2), some (.int v3), some (.int v4), some (.int v5), some (.int v6), some (.int v7)] [] (mSetI m 675 (Int32.toNatClampNeg v7) 1) K) ∧ (¬ v5 ≤ 0 → C m12_patternAt [(.int v7), (.int 0)] (mSetI m 675 (Int32.toNatClampNeg v7) 1) (fun o m5 => ∃ x7 : Int32, o = .inl (some (.int x7)) ∧ St m5 ∧ C m12_copies [(.ref 668), (.int v2), (.int x7)] m5 (fun o m8 => o = .inl none ∧ St m8 ∧ V m12_rule 175 [some (.ref 668), some (.int v1), some (.int v2), some (.int v3), some (.int v4), some (.int v5), some (.int v6), some (.int v7)] [] m8 K))))) ∧ (¬ (mI m 675 (Int32.toNatClampNeg v7)) = 0 → V m12_rule 135 [some (.ref 668), some (.int v1), some (.int v2), some (.int v3), some (.int v4), some (.int v5), some (.int v6), some (.int (v7 + 1))] [] m K))) : V m12_rule 135 [some (.ref 668), some (.int v1), some (.int v2), some (.int v3), some (.int v4), some (.int v5), some (.int v6), some (.int v7)] [] m K := by
  refine r_aload_n (y := m12_rule) dX12_rule_135 rfl rfl ?_
  refine g_X12_29 (y := m12_rule) rfl dX12_rule_136 hm ?_
  refine r_iload (y := m12_rule) dX12_rule_139 rfl ?_
  obtain ⟨hb1, h⟩ := h
  refine r_zald (y := m12_rule) (n := 24) dX12_rule_141 (sa_675 hm) hb1 ?_
  refine r_if_eq (y := m12_rule) (tgt := 151) dX12_rule_142 (by decide) (fun hc2 => ?_) (fun hc2 => ?_)
  · have h := h.1 hc2
    refine r_aload_n (y := m12_rule) dX12_rule_151 rfl rfl ?_
    refine g_X12_29 (y := m12_rule) rfl dX12_rule_152 hm ?_
    refine r_iload (y := m12_rule) dX12_rule_155 rfl ?_
    refine r_iconst (y := m12_rule) (v := 1) dX12_rule_157 (by decide) ?_
    obtain ⟨hb3, h⟩ := h
    refine r_zast (y := m12_rule) (n := 24) dX12_rule_158 (sa_675 hm) hb3 (by decide) ?_
    refine r_iload (y := m12_rule) dX12_rule_159 rfl ?_
    refine r_if_le (y := m12_rule) (tgt := 175) dX12_rule_161 (by decide) (fun hc4 => ?_) (fun hc4 => ?_)
    · have h := h.1 hc4
      exact h
    · have h := h.2 hc4
      refine r_aload_n (y := m12_rule) dX12_rule_164 rfl rfl ?_
      refine r_iload_n (y := m12_rule) dX12_rule_165 rfl rfl ?_
      refine r_iload (y := m12_rule) dX12_rule_166 rfl ?_
      refine r_iconst (y := m12_rule) (v := 0) dX12_rule_168 (by decide) ?_
      refine r_callS (y := m12_rule) (As := [(.int v7), (.int 0)]) dX12_rule_169 rfl k12_patternAt lm_X12_194 rfl ⟨by decide, by decide⟩ (Nat.le_of_ble_eq_true rfl) (C.mono h ?_)
      rintro _ m5 ⟨x7, rfl, hm6, h⟩
      refine ⟨_, rfl, ?_⟩
      refine r_callV (y := m12_rule) (As := [(.int v2), (.int x7)]) (b := 668) (ci := 12) dX12_rule_172 rfl k12_copies lm_X12_197 rfl ⟨by decide, by decide⟩ (so_668 hm6) (by decide) rfl (Nat.le_of_ble_eq_true rfl) (C.mono h ?_)
      rintro _ m8 ⟨rfl, hm9, h⟩
      refine ⟨none, rfl, ?_⟩
      exact h
  · have h := h.2 hc2
    refine r_iinc (y := m12_rule) (v := (v7 + 1)) (L' := [some (.ref 668), some (.int v1), some (.int v2), some (.int v3), some (.int v4), some (.int v5), some (.int v6), some (.int (v7 + 1))]) dX12_rule_145 rfl (by rfl) rfl ?_
    refine r_goto (y := m12_rule) (tgt := 135) dX12_rule_148 (by decide) ?_
    exact h
set_option maxHeartbeats 4000000 in
set_option maxRecDepth 100000 in
theorem u12_rule_175 {m : Mm} {K : Option Value ⊕ String → Mm → Prop} (hm : St m) {v1 : Int32} {v2 : Int32} {v3 : Int32} {v4 : Int32} {v5 : Int32} {v6 : Int32} {v7 : Int32}  (h : ((v5 ≤ 1 → V m12_rule 192 [some (.ref 668), some (.int v1), some (.int v2), some (.int v3), some (.int v4), some (.int v5), some (.int v6), some (.int v7)] [] m K) ∧ (¬ v5 ≤ 1 → C m12_patternAt [(.int v7), (.int 1)] m (fun o m2 => ∃ x4 : Int32, o = .inl (some (.int x4)) ∧ St m2 ∧ C m12_copies [(.ref 668), (.int v3), (.int x4)] m2 (fun o m5 => o = .inl none ∧ St m5 ∧ V m12_rule 192 [some (.ref 668), some (.int v1), some (.int v2), some (.int v3), some (.int v4), some (.int v5), some (.int v6), some (.int v7)] [] m5 K))))) : V m12_rule 175 [some (.ref 668), some (.int v1), some (.int v2), some (.int v3), some (.int v4), some (.int v5), some (.int v6), some (.int v7)] [] m K := by
  refine r_iload (y := m12_rule) dX12_rule_175 rfl ?_
  refine r_iconst (y := m12_rule) (v := 1) dX12_rule_177 (by decide) ?_
  refine r_icmp_le (y := m12_rule) (tgt := 192) dX12_rule_178 (by decide) (fun hc1 => ?_) (fun hc1 => ?_)
  · have h := h.1 hc1
    exact h
  · have h := h.2 hc1
    refine r_aload_n (y := m12_rule) dX12_rule_181 rfl rfl ?_
    refine r_iload_n (y := m12_rule) dX12_rule_182 rfl rfl ?_
    refine r_iload (y := m12_rule) dX12_rule_183 rfl ?_
    refine r_iconst (y := m12_rule) (v := 1) dX12_rule_185 (by decide) ?_
    refine r_callS (y := m12_rule) (As := [(.int v7), (.int 1)]) dX12_rule_186 rfl k12_patternAt lm_X12_194 rfl ⟨by decide, by decide⟩ (Nat.le_of_ble_eq_true rfl) (C.mono h ?_)
    rintro _ m2 ⟨x4, rfl, hm3, h⟩
    refine ⟨_, rfl, ?_⟩
    refine r_callV (y := m12_rule) (As := [(.int v3), (.int x4)]) (b := 668) (ci := 12) dX12_rule_189 rfl k12_copies lm_X12_197 rfl ⟨by decide, by decide⟩ (so_668 hm3) (by decide) rfl (Nat.le_of_ble_eq_true rfl) (C.mono h ?_)
    rintro _ m5 ⟨rfl, hm6, h⟩
    refine ⟨none, rfl, ?_⟩
    exact h
set_option maxHeartbeats 4000000 in
set_option maxRecDepth 100000 in
theorem u12_rule_192 {m : Mm} {K : Option Value ⊕ String → Mm → Prop} (hm : St m) {v1 : Int32} {v2 : Int32} {v3 : Int32} {v4 : Int32} {v5 : Int32} {v6 : Int32} {v7 : Int32}  (h : C m12_patternAt [(.int v7), (.int 2)] m (fun o m1 => ∃ x3 : Int32, o = .inl (some (.int x3)) ∧ St m1 ∧ C m12_copies [(.ref 668), (.int v4), (.int x3)] m1 (fun o m4 => o = .inl none ∧ St m4 ∧ vp_in v1 8 ∧ vp_in ((24 * v1) + (mI m4 673 (Int32.toNatClampNeg v1))) 192 ∧ vp_in v1 8 ∧ vp_in v1 8 ∧ vp_in v1 8 ∧ K (.inl (some (.int (((mI m4 673 (Int32.toNatClampNeg v1)) + 1) - 1)))) (mSetI (mSetI (mSetI m4 674 (Int32.toNatClampNeg ((24 * v1) + (mI m4 673 (Int32.toNatClampNeg v1)))) v7) 673 (Int32.toNatClampNeg v1) ((mI m4 673 (Int32.toNatClampNeg v1)) + 1)) 668 9 ((mI m4 668 9) + 1))))) : V m12_rule 192 [some (.ref 668), some (.int v1), some (.int v2), some (.int v3), some (.int v4), some (.int v5), some (.int v6), some (.int v7)] [] m K := by
  refine r_aload_n (y := m12_rule) dX12_rule_192 rfl rfl ?_
  refine r_iload (y := m12_rule) dX12_rule_193 rfl ?_
  refine r_iload (y := m12_rule) dX12_rule_195 rfl ?_
  refine r_iconst (y := m12_rule) (v := 2) dX12_rule_197 (by decide) ?_
  refine r_callS (y := m12_rule) (As := [(.int v7), (.int 2)]) dX12_rule_198 rfl k12_patternAt lm_X12_194 rfl ⟨by decide, by decide⟩ (Nat.le_of_ble_eq_true rfl) (C.mono h ?_)
  rintro _ m1 ⟨x3, rfl, hm2, h⟩
  refine ⟨_, rfl, ?_⟩
  refine r_callV (y := m12_rule) (As := [(.int v4), (.int x3)]) (b := 668) (ci := 12) dX12_rule_201 rfl k12_copies lm_X12_197 rfl ⟨by decide, by decide⟩ (so_668 hm2) (by decide) rfl (Nat.le_of_ble_eq_true rfl) (C.mono h ?_)
  rintro _ m4 ⟨rfl, hm5, h⟩
  refine ⟨none, rfl, ?_⟩
  refine r_aload_n (y := m12_rule) dX12_rule_204 rfl rfl ?_
  refine g_X12_26 (y := m12_rule) rfl dX12_rule_205 hm5 ?_
  refine r_bipush (y := m12_rule) (v := 24) dX12_rule_208 (by decide) ?_
  refine r_iload_n (y := m12_rule) dX12_rule_210 rfl rfl ?_
  refine r_imul (y := m12_rule) dX12_rule_211 ?_
  refine r_aload_n (y := m12_rule) dX12_rule_212 rfl rfl ?_
  refine g_X12_23 (y := m12_rule) rfl dX12_rule_213 hm5 ?_
  refine r_iload_n (y := m12_rule) dX12_rule_216 rfl rfl ?_
  obtain ⟨hb6, h⟩ := h
  refine r_iald (y := m12_rule) (n := 8) dX12_rule_217 (sa_673 hm5) hb6 ?_
  refine r_iadd (y := m12_rule) dX12_rule_218 ?_
  refine r_iload (y := m12_rule) dX12_rule_219 rfl ?_
  obtain ⟨hb7, h⟩ := h
  refine r_iast (y := m12_rule) (n := 192) dX12_rule_221 (sa_674 hm5) hb7 ?_
  refine r_aload_n (y := m12_rule) dX12_rule_222 rfl rfl ?_
  refine g_X12_23 (y := m12_rule) rfl dX12_rule_223 (St.i hm5) ?_
  refine r_iload_n (y := m12_rule) dX12_rule_226 rfl rfl ?_
  refine r_dup2 (y := m12_rule) dX12_rule_227 ?_
  obtain ⟨hb8, h⟩ := h
  refine r_iald (y := m12_rule) (n := 8) dX12_rule_228 (sa_673 (St.i hm5)) hb8 ?_
  refine V.top (b := (mI m4 673 (Int32.toNatClampNeg v1))) (by first | rfl | simp [mI_set, mI_setR]) ?_
  refine r_iconst (y := m12_rule) (v := 1) dX12_rule_229 (by decide) ?_
  refine r_iadd (y := m12_rule) dX12_rule_230 ?_
  obtain ⟨hb9, h⟩ := h
  refine r_iast (y := m12_rule) (n := 8) dX12_rule_231 (sa_673 (St.i hm5)) hb9 ?_
  refine r_aload_n (y := m12_rule) dX12_rule_232 rfl rfl ?_
  refine r_dup_r (y := m12_rule) dX12_rule_233 ?_
  refine g_X12_191 (y := m12_rule) rfl dX12_rule_234 (St.i (St.i hm5)) ?_
  refine V.top (b := (mI m4 668 9)) (by first | rfl | simp [mI_set, mI_setR]) ?_
  refine r_iconst (y := m12_rule) (v := 1) dX12_rule_237 (by decide) ?_
  refine r_iadd (y := m12_rule) dX12_rule_238 ?_
  refine p_X12_191 (y := m12_rule) rfl dX12_rule_239 (St.i (St.i hm5)) ?_
  refine r_aload_n (y := m12_rule) dX12_rule_242 rfl rfl ?_
  refine g_X12_23 (y := m12_rule) rfl dX12_rule_243 (St.i (St.i (St.i hm5))) ?_
  refine r_iload_n (y := m12_rule) dX12_rule_246 rfl rfl ?_
  obtain ⟨hb10, h⟩ := h
  refine r_iald (y := m12_rule) (n := 8) dX12_rule_247 (sa_673 (St.i (St.i (St.i hm5)))) hb10 ?_
  refine V.top (b := ((mI m4 673 (Int32.toNatClampNeg v1)) + 1)) (by first | rfl | simp [mI_set, mI_setR]) ?_
  refine r_iconst (y := m12_rule) (v := 1) dX12_rule_248 (by decide) ?_
  refine r_isub (y := m12_rule) dX12_rule_249 ?_
  exact r_iret (y := m12_rule) dX12_rule_250 rfl rfl h
set_option maxHeartbeats 4000000 in
set_option maxRecDepth 100000 in
theorem u12_bringsMany {m : Mm} {K : Option Value ⊕ String → Mm → Prop} (hm : St m) {a0 : Int32} {a1 : Int32} {a2 : Int32}  (h : vp_in a0 8 ∧ (((mI m 669 (Int32.toNatClampNeg a0)) ≤ 0 → V m12_bringsMany 22 [some (.ref 668), some (.int a0), some (.int a1), some (.int a2), none, none, none, none, none, none] [(.int 0)] m K) ∧ (¬ (mI m 669 (Int32.toNatClampNeg a0)) ≤ 0 → C m12_patternAt [(.int a1), (.int 0)] m (fun o m3 => ∃ x5 : Int32, o = .inl (some (.int x5)) ∧ St m3 ∧ C m12_namesAt [(.ref 668), (.int x5)] m3 (fun o m6 => ∃ x8 : Int32, o = .inl (some (.int x8)) ∧ St m6 ∧ V m12_bringsMany 22 [some (.ref 668), some (.int a0), some (.int a1), some (.int a2), none, none, none, none, none, none] [(.int x8)] m6 K))))) : V m12_bringsMany 0 [some (.ref 668), some (.int a0), some (.int a1), some (.int a2), none, none, none, none, none, none] [] m K := by
  refine r_aload_n (y := m12_bringsMany) dX12_bringsMany_0 rfl rfl ?_
  refine g_X12_7 (y := m12_bringsMany) rfl dX12_bringsMany_1 hm ?_
  refine r_iload_n (y := m12_bringsMany) dX12_bringsMany_4 rfl rfl ?_
  obtain ⟨hb1, h⟩ := h
  refine r_iald (y := m12_bringsMany) (n := 8) dX12_bringsMany_5 (sa_669 hm) hb1 ?_
  refine r_if_le (y := m12_bringsMany) (tgt := 21) dX12_bringsMany_6 (by decide) (fun hc2 => ?_) (fun hc2 => ?_)
  · have h := h.1 hc2
    refine r_iconst (y := m12_bringsMany) (v := 0) dX12_bringsMany_21 (by decide) ?_
    exact h
  · have h := h.2 hc2
    refine r_aload_n (y := m12_bringsMany) dX12_bringsMany_9 rfl rfl ?_
    refine r_iload_n (y := m12_bringsMany) dX12_bringsMany_10 rfl rfl ?_
    refine r_iconst (y := m12_bringsMany) (v := 0) dX12_bringsMany_11 (by decide) ?_
    refine r_callS (y := m12_bringsMany) (As := [(.int a1), (.int 0)]) dX12_bringsMany_12 rfl k12_patternAt lm_X12_194 rfl ⟨by decide, by decide⟩ (Nat.le_of_ble_eq_true rfl) (C.mono h ?_)
    rintro _ m3 ⟨x5, rfl, hm4, h⟩
    refine ⟨_, rfl, ?_⟩
    refine r_callV (y := m12_bringsMany) (As := [(.int x5)]) (b := 668) (ci := 12) dX12_bringsMany_15 rfl k12_namesAt lm_X12_208 rfl ⟨by decide, by decide⟩ (so_668 hm4) (by decide) rfl (Nat.le_of_ble_eq_true rfl) (C.mono h ?_)
    rintro _ m6 ⟨x8, rfl, hm7, h⟩
    refine ⟨_, rfl, ?_⟩
    refine r_goto (y := m12_bringsMany) (tgt := 22) dX12_bringsMany_18 (by decide) ?_
    exact h
set_option maxHeartbeats 4000000 in
set_option maxRecDepth 100000 in
theorem u12_bringsMany_22 {m : Mm} {K : Option Value ⊕ String → Mm → Prop} (hm : St m) {v1 : Int32} {v2 : Int32} {v3 : Int32} {s0 : Int32}  (h : vp_in v1 8 ∧ (((mI m 669 (Int32.toNatClampNeg v1)) ≤ 1 → V m12_bringsMany 49 [some (.ref 668), some (.int v1), some (.int v2), some (.int v3), some (.int s0), none, none, none, none, none] [(.int 0), (.int s0)] m K) ∧ (¬ (mI m 669 (Int32.toNatClampNeg v1)) ≤ 1 → C m12_patternAt [(.int v2), (.int 1)] m (fun o m3 => ∃ x5 : Int32, o = .inl (some (.int x5)) ∧ St m3 ∧ C m12_namesAt [(.ref 668), (.int x5)] m3 (fun o m6 => ∃ x8 : Int32, o = .inl (some (.int x8)) ∧ St m6 ∧ V m12_bringsMany 49 [some (.ref 668), some (.int v1), some (.int v2), some (.int v3), some (.int s0), none, none, none, none, none] [(.int x8), (.int s0)] m6 K))))) : V m12_bringsMany 22 [some (.ref 668), some (.int v1), some (.int v2), some (.int v3), none, none, none, none, none, none] [(.int s0)] m K := by
  refine r_istore (y := m12_bringsMany) (L' := [some (.ref 668), some (.int v1), some (.int v2), some (.int v3), some (.int s0), none, none, none, none, none]) dX12_bringsMany_22 (Nat.le_of_ble_eq_true rfl) rfl ?_
  refine r_iload (y := m12_bringsMany) dX12_bringsMany_24 rfl ?_
  refine r_aload_n (y := m12_bringsMany) dX12_bringsMany_26 rfl rfl ?_
  refine g_X12_7 (y := m12_bringsMany) rfl dX12_bringsMany_27 hm ?_
  refine r_iload_n (y := m12_bringsMany) dX12_bringsMany_30 rfl rfl ?_
  obtain ⟨hb1, h⟩ := h
  refine r_iald (y := m12_bringsMany) (n := 8) dX12_bringsMany_31 (sa_669 hm) hb1 ?_
  refine r_iconst (y := m12_bringsMany) (v := 1) dX12_bringsMany_32 (by decide) ?_
  refine r_icmp_le (y := m12_bringsMany) (tgt := 48) dX12_bringsMany_33 (by decide) (fun hc2 => ?_) (fun hc2 => ?_)
  · have h := h.1 hc2
    refine r_iconst (y := m12_bringsMany) (v := 0) dX12_bringsMany_48 (by decide) ?_
    exact h
  · have h := h.2 hc2
    refine r_aload_n (y := m12_bringsMany) dX12_bringsMany_36 rfl rfl ?_
    refine r_iload_n (y := m12_bringsMany) dX12_bringsMany_37 rfl rfl ?_
    refine r_iconst (y := m12_bringsMany) (v := 1) dX12_bringsMany_38 (by decide) ?_
    refine r_callS (y := m12_bringsMany) (As := [(.int v2), (.int 1)]) dX12_bringsMany_39 rfl k12_patternAt lm_X12_194 rfl ⟨by decide, by decide⟩ (Nat.le_of_ble_eq_true rfl) (C.mono h ?_)
    rintro _ m3 ⟨x5, rfl, hm4, h⟩
    refine ⟨_, rfl, ?_⟩
    refine r_callV (y := m12_bringsMany) (As := [(.int x5)]) (b := 668) (ci := 12) dX12_bringsMany_42 rfl k12_namesAt lm_X12_208 rfl ⟨by decide, by decide⟩ (so_668 hm4) (by decide) rfl (Nat.le_of_ble_eq_true rfl) (C.mono h ?_)
    rintro _ m6 ⟨x8, rfl, hm7, h⟩
    refine ⟨_, rfl, ?_⟩
    refine r_goto (y := m12_bringsMany) (tgt := 49) dX12_bringsMany_45 (by decide) ?_
    exact h
set_option maxHeartbeats 4000000 in
set_option maxRecDepth 100000 in
theorem u12_bringsMany_49 {m : Mm} {K : Option Value ⊕ String → Mm → Prop} (hm : St m) {v1 : Int32} {v2 : Int32} {v3 : Int32} {v4 : Int32} {s0 : Int32} {s1 : Int32}  (h : C m12_patternAt [(.int v2), (.int 2)] m (fun o m1 => ∃ x3 : Int32, o = .inl (some (.int x3)) ∧ St m1 ∧ C m12_endOf [(.ref 668), (.int x3)] m1 (fun o m4 => ∃ x6 : Int32, o = .inl (some (.int x6)) ∧ St m4 ∧ V m12_bringsMany 74 [some (.ref 668), some (.int v1), some (.int v2), some (.int v3), some (.int (s0 ||| s1)), some (.int x3), some (.int x6), some (.int x3), some (.int 0), none] [] m4 K))) : V m12_bringsMany 49 [some (.ref 668), some (.int v1), some (.int v2), some (.int v3), some (.int v4), none, none, none, none, none] [(.int s1), (.int s0)] m K := by
  refine r_ior (y := m12_bringsMany) dX12_bringsMany_49 ?_
  refine r_istore (y := m12_bringsMany) (L' := [some (.ref 668), some (.int v1), some (.int v2), some (.int v3), some (.int (s0 ||| s1)), none, none, none, none, none]) dX12_bringsMany_50 (Nat.le_of_ble_eq_true rfl) rfl ?_
  refine r_iload_n (y := m12_bringsMany) dX12_bringsMany_52 rfl rfl ?_
  refine r_iconst (y := m12_bringsMany) (v := 2) dX12_bringsMany_53 (by decide) ?_
  refine r_callS (y := m12_bringsMany) (As := [(.int v2), (.int 2)]) dX12_bringsMany_54 rfl k12_patternAt lm_X12_194 rfl ⟨by decide, by decide⟩ (Nat.le_of_ble_eq_true rfl) (C.mono h ?_)
  rintro _ m1 ⟨x3, rfl, hm2, h⟩
  refine ⟨_, rfl, ?_⟩
  refine r_istore (y := m12_bringsMany) (L' := [some (.ref 668), some (.int v1), some (.int v2), some (.int v3), some (.int (s0 ||| s1)), some (.int x3), none, none, none, none]) dX12_bringsMany_57 (Nat.le_of_ble_eq_true rfl) rfl ?_
  refine r_aload_n (y := m12_bringsMany) dX12_bringsMany_59 rfl rfl ?_
  refine r_iload (y := m12_bringsMany) dX12_bringsMany_60 rfl ?_
  refine r_callV (y := m12_bringsMany) (As := [(.int x3)]) (b := 668) (ci := 12) dX12_bringsMany_62 rfl k12_endOf lm_X12_201 rfl ⟨by decide, by decide⟩ (so_668 hm2) (by decide) rfl (Nat.le_of_ble_eq_true rfl) (C.mono h ?_)
  rintro _ m4 ⟨x6, rfl, hm5, h⟩
  refine ⟨_, rfl, ?_⟩
  refine r_istore (y := m12_bringsMany) (L' := [some (.ref 668), some (.int v1), some (.int v2), some (.int v3), some (.int (s0 ||| s1)), some (.int x3), some (.int x6), none, none, none]) dX12_bringsMany_65 (Nat.le_of_ble_eq_true rfl) rfl ?_
  refine r_iload (y := m12_bringsMany) dX12_bringsMany_67 rfl ?_
  refine r_istore (y := m12_bringsMany) (L' := [some (.ref 668), some (.int v1), some (.int v2), some (.int v3), some (.int (s0 ||| s1)), some (.int x3), some (.int x6), some (.int x3), none, none]) dX12_bringsMany_69 (Nat.le_of_ble_eq_true rfl) rfl ?_
  refine r_iconst (y := m12_bringsMany) (v := 0) dX12_bringsMany_71 (by decide) ?_
  refine r_istore (y := m12_bringsMany) (L' := [some (.ref 668), some (.int v1), some (.int v2), some (.int v3), some (.int (s0 ||| s1)), some (.int x3), some (.int x6), some (.int x3), some (.int 0), none]) dX12_bringsMany_72 (Nat.le_of_ble_eq_true rfl) rfl ?_
  exact h
set_option maxHeartbeats 4000000 in
set_option maxRecDepth 100000 in
theorem u12_bringsMany_74 {m : Mm} {K : Option Value ⊕ String → Mm → Prop} (hm : St m) {v1 : Int32} {v2 : Int32} {v3 : Int32} {v4 : Int32} {v5 : Int32} {v6 : Int32} {v7 : Int32} {v8 : Int32}  (h : ((v6 ≤ v7 → (narrow .boolean (.int v8) = .int v8 ∧ K (.inl (some (.int v8))) m)) ∧ (¬ v6 ≤ v7 → vp_in v7 876 ∧ ((¬ v8 = 0 → V m12_bringsMany 144 [some (.ref 668), some (.int v1), some (.int v2), some (.int v3), some (.int v4), some (.int v5), some (.int v6), some (.int v7), some (.int v8), some (.int (mI m 676 (Int32.toNatClampNeg v7)))] [] m K) ∧ (v8 = 0 → (((mI m 676 (Int32.toNatClampNeg v7)) = 30 → V m12_bringsMany 144 [some (.ref 668), some (.int v1), some (.int v2), some (.int v3), some (.int v4), some (.int v5), some (.int v6), some (.int v7), some (.int v8), some (.int (mI m 676 (Int32.toNatClampNeg v7)))] [] m K) ∧ (¬ (mI m 676 (Int32.toNatClampNeg v7)) = 30 → ((10 ≤ (mI m 676 (Int32.toNatClampNeg v7)) → V m12_bringsMany 119 [some (.ref 668), some (.int v1), some (.int v2), some (.int v3), some (.int v4), some (.int v5), some (.int v6), some (.int v7), some (.int v8), some (.int (mI m 676 (Int32.toNatClampNeg v7)))] [] m K) ∧ (¬ 10 ≤ (mI m 676 (Int32.toNatClampNeg v7)) → ((((v4 >>> ((mI m 676 (Int32.toNatClampNeg v7)) &&& 31)) &&& 1) = 0 → V m12_bringsMany 144 [some (.ref 668), some (.int v1), some (.int v2), some (.int v3), some (.int v4), some (.int v5), some (.int v6), some (.int v7), some (.int v8), some (.int (mI m 676 (Int32.toNatClampNeg v7)))] [] m K) ∧ (¬ ((v4 >>> ((mI m 676 (Int32.toNatClampNeg v7)) &&& 31)) &&& 1) = 0 → V m12_bringsMany 119 [some (.ref 668), some (.int v1), some (.int v2), some (.int v3), some (.int v4), some (.int v5), some (.int v6), some (.int v7), some (.int v8), some (.int (mI m 676 (Int32.toNatClampNeg v7)))] [] m K))))))))))) : V m12_bringsMany 74 [some (.ref 668), some (.int v1), some (.int v2), some (.int v3), some (.int v4), some (.int v5), some (.int v6), some (.int v7), some (.int v8), none] [] m K := by
  refine r_iload (y := m12_bringsMany) dX12_bringsMany_74 rfl ?_
  refine r_iload (y := m12_bringsMany) dX12_bringsMany_76 rfl ?_
  refine r_icmp_ge (y := m12_bringsMany) (tgt := 176) dX12_bringsMany_78 (by decide) (fun hc1 => ?_) (fun hc1 => ?_)
  · have h := h.1 hc1
    refine r_iload (y := m12_bringsMany) dX12_bringsMany_176 rfl ?_
    exact r_iret (y := m12_bringsMany) (ty := .boolean) dX12_bringsMany_178 rfl h.1 h.2
  · have h := h.2 hc1
    refine r_aload_n (y := m12_bringsMany) dX12_bringsMany_81 rfl rfl ?_
    refine g_X12_32 (y := m12_bringsMany) rfl dX12_bringsMany_82 hm ?_
    refine r_iload (y := m12_bringsMany) dX12_bringsMany_85 rfl ?_
    obtain ⟨hb2, h⟩ := h
    refine r_iald (y := m12_bringsMany) (n := 876) dX12_bringsMany_87 (sa_676 hm) hb2 ?_
    refine r_istore (y := m12_bringsMany) (L' := [some (.ref 668), some (.int v1), some (.int v2), some (.int v3), some (.int v4), some (.int v5), some (.int v6), some (.int v7), some (.int v8), some (.int (mI m 676 (Int32.toNatClampNeg v7)))]) dX12_bringsMany_88 (Nat.le_of_ble_eq_true rfl) rfl ?_
    refine r_iload (y := m12_bringsMany) dX12_bringsMany_90 rfl ?_
    refine r_if_ne (y := m12_bringsMany) (tgt := 144) dX12_bringsMany_92 (by decide) (fun hc3 => ?_) (fun hc3 => ?_)
    · have h := h.1 hc3
      exact h
    · have h := h.2 hc3
      refine r_iload (y := m12_bringsMany) dX12_bringsMany_95 rfl ?_
      refine r_bipush (y := m12_bringsMany) (v := 30) dX12_bringsMany_97 (by decide) ?_
      refine r_icmp_eq (y := m12_bringsMany) (tgt := 144) dX12_bringsMany_99 (by decide) (fun hc4 => ?_) (fun hc4 => ?_)
      · have h := h.1 hc4
        exact h
      · have h := h.2 hc4
        refine r_iload (y := m12_bringsMany) dX12_bringsMany_102 rfl ?_
        refine r_bipush (y := m12_bringsMany) (v := 10) dX12_bringsMany_104 (by decide) ?_
        refine r_icmp_ge (y := m12_bringsMany) (tgt := 119) dX12_bringsMany_106 (by decide) (fun hc5 => ?_) (fun hc5 => ?_)
        · have h := h.1 hc5
          exact h
        · have h := h.2 hc5
          refine r_iload (y := m12_bringsMany) dX12_bringsMany_109 rfl ?_
          refine r_iload (y := m12_bringsMany) dX12_bringsMany_111 rfl ?_
          refine r_ishr (y := m12_bringsMany) dX12_bringsMany_113 ?_
          refine r_iconst (y := m12_bringsMany) (v := 1) dX12_bringsMany_114 (by decide) ?_
          refine r_iand (y := m12_bringsMany) dX12_bringsMany_115 ?_
          refine r_if_eq (y := m12_bringsMany) (tgt := 144) dX12_bringsMany_116 (by decide) (fun hc6 => ?_) (fun hc6 => ?_)
          · have h := h.1 hc6
            exact h
          · have h := h.2 hc6
            exact h
set_option maxHeartbeats 4000000 in
set_option maxRecDepth 100000 in
theorem u12_bringsMany_144 {m : Mm} {K : Option Value ⊕ String → Mm → Prop} (hm : St m) {v1 : Int32} {v2 : Int32} {v3 : Int32} {v4 : Int32} {v5 : Int32} {v6 : Int32} {v7 : Int32} {v8 : Int32} {v9 : Int32}  (h : V m12_bringsMany 149 [some (.ref 668), some (.int v1), some (.int v2), some (.int v3), some (.int v4), some (.int v5), some (.int v6), some (.int v7), some (.int v8), some (.int v9)] [(.int 1)] m K) : V m12_bringsMany 144 [some (.ref 668), some (.int v1), some (.int v2), some (.int v3), some (.int v4), some (.int v5), some (.int v6), some (.int v7), some (.int v8), some (.int v9)] [] m K := by
  refine r_iconst (y := m12_bringsMany) (v := 1) dX12_bringsMany_144 (by decide) ?_
  refine r_goto (y := m12_bringsMany) (tgt := 149) dX12_bringsMany_145 (by decide) ?_
  exact h
set_option maxHeartbeats 4000000 in
set_option maxRecDepth 100000 in
theorem u12_bringsMany_119 {m : Mm} {K : Option Value ⊕ String → Mm → Prop} (hm : St m) {v1 : Int32} {v2 : Int32} {v3 : Int32} {v4 : Int32} {v5 : Int32} {v6 : Int32} {v7 : Int32} {v8 : Int32} {v9 : Int32}  (h : C m12_in [(.int v9), (.int 20), (.int 29)] m (fun o m1 => ∃ x3 : Int32, o = .inl (some (.int x3)) ∧ St m1 ∧ ((x3 = 0 → V m12_bringsMany 148 [some (.ref 668), some (.int v1), some (.int v2), some (.int v3), some (.int v4), some (.int v5), some (.int v6), some (.int v7), some (.int v8), some (.int v9)] [] m1 K) ∧ (¬ x3 = 0 → ((¬ ((v3 >>> ((v9 - 20) &&& 31)) &&& 1) = 1 → V m12_bringsMany 148 [some (.ref 668), some (.int v1), some (.int v2), some (.int v3), some (.int v4), some (.int v5), some (.int v6), some (.int v7), some (.int v8), some (.int v9)] [] m1 K) ∧ (((v3 >>> ((v9 - 20) &&& 31)) &&& 1) = 1 → V m12_bringsMany 144 [some (.ref 668), some (.int v1), some (.int v2), some (.int v3), some (.int v4), some (.int v5), some (.int v6), some (.int v7), some (.int v8), some (.int v9)] [] m1 K)))))) : V m12_bringsMany 119 [some (.ref 668), some (.int v1), some (.int v2), some (.int v3), some (.int v4), some (.int v5), some (.int v6), some (.int v7), some (.int v8), some (.int v9)] [] m K := by
  refine r_iload (y := m12_bringsMany) dX12_bringsMany_119 rfl ?_
  refine r_bipush (y := m12_bringsMany) (v := 20) dX12_bringsMany_121 (by decide) ?_
  refine r_bipush (y := m12_bringsMany) (v := 29) dX12_bringsMany_123 (by decide) ?_
  refine r_callS (y := m12_bringsMany) (As := [(.int v9), (.int 20), (.int 29)]) dX12_bringsMany_125 rfl k12_in lm_X12_154 rfl ⟨by decide, by decide⟩ (Nat.le_of_ble_eq_true rfl) (C.mono h ?_)
  rintro _ m1 ⟨x3, rfl, hm2, h⟩
  refine ⟨_, rfl, ?_⟩
  refine r_if_eq (y := m12_bringsMany) (tgt := 148) dX12_bringsMany_128 (by decide) (fun hc4 => ?_) (fun hc4 => ?_)
  · have h := h.1 hc4
    exact h
  · have h := h.2 hc4
    refine r_iload_n (y := m12_bringsMany) dX12_bringsMany_131 rfl rfl ?_
    refine r_iload (y := m12_bringsMany) dX12_bringsMany_132 rfl ?_
    refine r_bipush (y := m12_bringsMany) (v := 20) dX12_bringsMany_134 (by decide) ?_
    refine r_isub (y := m12_bringsMany) dX12_bringsMany_136 ?_
    refine r_ishr (y := m12_bringsMany) dX12_bringsMany_137 ?_
    refine r_iconst (y := m12_bringsMany) (v := 1) dX12_bringsMany_138 (by decide) ?_
    refine r_iand (y := m12_bringsMany) dX12_bringsMany_139 ?_
    refine r_iconst (y := m12_bringsMany) (v := 1) dX12_bringsMany_140 (by decide) ?_
    refine r_icmp_ne (y := m12_bringsMany) (tgt := 148) dX12_bringsMany_141 (by decide) (fun hc5 => ?_) (fun hc5 => ?_)
    · have h := h.1 hc5
      exact h
    · have h := h.2 hc5
      exact h
set_option maxHeartbeats 4000000 in
set_option maxRecDepth 100000 in
theorem u12_bringsMany_149 {m : Mm} {K : Option Value ⊕ String → Mm → Prop} (hm : St m) {v1 : Int32} {v2 : Int32} {v3 : Int32} {v4 : Int32} {v5 : Int32} {v6 : Int32} {v7 : Int32} {v8 : Int32} {v9 : Int32} {s0 : Int32}  (h : ((¬ v9 = 33 → V m12_bringsMany 171 [some (.ref 668), some (.int v1), some (.int v2), some (.int v3), some (.int v4), some (.int v5), some (.int v6), some (.int v7), some (.int s0), some (.int v9)] [(.int (v7 + 1))] m K) ∧ (v9 = 33 → C m12_endOf [(.ref 668), (.int v7)] m (fun o m2 => ∃ x4 : Int32, o = .inl (some (.int x4)) ∧ St m2 ∧ V m12_bringsMany 171 [some (.ref 668), some (.int v1), some (.int v2), some (.int v3), some (.int v4), some (.int v5), some (.int v6), some (.int v7), some (.int s0), some (.int v9)] [(.int x4)] m2 K)))) : V m12_bringsMany 149 [some (.ref 668), some (.int v1), some (.int v2), some (.int v3), some (.int v4), some (.int v5), some (.int v6), some (.int v7), some (.int v8), some (.int v9)] [(.int s0)] m K := by
  refine r_istore (y := m12_bringsMany) (L' := [some (.ref 668), some (.int v1), some (.int v2), some (.int v3), some (.int v4), some (.int v5), some (.int v6), some (.int v7), some (.int s0), some (.int v9)]) dX12_bringsMany_149 (Nat.le_of_ble_eq_true rfl) rfl ?_
  refine r_iload (y := m12_bringsMany) dX12_bringsMany_151 rfl ?_
  refine r_bipush (y := m12_bringsMany) (v := 33) dX12_bringsMany_153 (by decide) ?_
  refine r_icmp_ne (y := m12_bringsMany) (tgt := 167) dX12_bringsMany_155 (by decide) (fun hc1 => ?_) (fun hc1 => ?_)
  · have h := h.1 hc1
    refine r_iload (y := m12_bringsMany) dX12_bringsMany_167 rfl ?_
    refine r_iconst (y := m12_bringsMany) (v := 1) dX12_bringsMany_169 (by decide) ?_
    refine r_iadd (y := m12_bringsMany) dX12_bringsMany_170 ?_
    exact h
  · have h := h.2 hc1
    refine r_aload_n (y := m12_bringsMany) dX12_bringsMany_158 rfl rfl ?_
    refine r_iload (y := m12_bringsMany) dX12_bringsMany_159 rfl ?_
    refine r_callV (y := m12_bringsMany) (As := [(.int v7)]) (b := 668) (ci := 12) dX12_bringsMany_161 rfl k12_endOf lm_X12_201 rfl ⟨by decide, by decide⟩ (so_668 hm) (by decide) rfl (Nat.le_of_ble_eq_true rfl) (C.mono h ?_)
    rintro _ m2 ⟨x4, rfl, hm3, h⟩
    refine ⟨_, rfl, ?_⟩
    refine r_goto (y := m12_bringsMany) (tgt := 171) dX12_bringsMany_164 (by decide) ?_
    exact h
set_option maxHeartbeats 4000000 in
set_option maxRecDepth 100000 in
theorem u12_bringsMany_148 {m : Mm} {K : Option Value ⊕ String → Mm → Prop} (hm : St m) {v1 : Int32} {v2 : Int32} {v3 : Int32} {v4 : Int32} {v5 : Int32} {v6 : Int32} {v7 : Int32} {v8 : Int32} {v9 : Int32}  (h : V m12_bringsMany 149 [some (.ref 668), some (.int v1), some (.int v2), some (.int v3), some (.int v4), some (.int v5), some (.int v6), some (.int v7), some (.int v8), some (.int v9)] [(.int 0)] m K) : V m12_bringsMany 148 [some (.ref 668), some (.int v1), some (.int v2), some (.int v3), some (.int v4), some (.int v5), some (.int v6), some (.int v7), some (.int v8), some (.int v9)] [] m K := by
  refine r_iconst (y := m12_bringsMany) (v := 0) dX12_bringsMany_148 (by decide) ?_
  exact h
set_option maxHeartbeats 4000000 in
set_option maxRecDepth 100000 in
theorem u12_bringsMany_171 {m : Mm} {K : Option Value ⊕ String → Mm → Prop} (hm : St m) {v1 : Int32} {v2 : Int32} {v3 : Int32} {v4 : Int32} {v5 : Int32} {v6 : Int32} {v7 : Int32} {v8 : Int32} {v9 : Int32} {s0 : Int32}  (h : V m12_bringsMany 74 [some (.ref 668), some (.int v1), some (.int v2), some (.int v3), some (.int v4), some (.int v5), some (.int v6), some (.int s0), some (.int v8), some (.int v9)] [] m K) : V m12_bringsMany 171 [some (.ref 668), some (.int v1), some (.int v2), some (.int v3), some (.int v4), some (.int v5), some (.int v6), some (.int v7), some (.int v8), some (.int v9)] [(.int s0)] m K := by
  refine r_istore (y := m12_bringsMany) (L' := [some (.ref 668), some (.int v1), some (.int v2), some (.int v3), some (.int v4), some (.int v5), some (.int v6), some (.int s0), some (.int v8), some (.int v9)]) dX12_bringsMany_171 (Nat.le_of_ble_eq_true rfl) rfl ?_
  refine r_goto (y := m12_bringsMany) (tgt := 74) dX12_bringsMany_173 (by decide) ?_
  exact h
set_option maxHeartbeats 4000000 in
set_option maxRecDepth 100000 in
theorem u12_isMany {m : Mm} {K : Option Value ⊕ String → Mm → Prop} (hm : St m) {a0 : Int32} {a1 : Int32}  (h : V m12_isMany 5 [some (.ref 668), some (.int a0), some (.int a1), some (.int 0), some (.int 0), none, none] [] m K) : V m12_isMany 0 [some (.ref 668), some (.int a0), some (.int a1), none, none, none, none] [] m K := by
  refine r_iconst (y := m12_isMany) (v := 0) dX12_isMany_0 (by decide) ?_
  refine r_istore_n (y := m12_isMany) (L' := [some (.ref 668), some (.int a0), some (.int a1), some (.int 0), none, none, none]) dX12_isMany_1 rfl (Nat.le_of_ble_eq_true rfl) rfl ?_
  refine r_iconst (y := m12_isMany) (v := 0) dX12_isMany_2 (by decide) ?_
  refine r_istore (y := m12_isMany) (L' := [some (.ref 668), some (.int a0), some (.int a1), some (.int 0), some (.int 0), none, none]) dX12_isMany_3 (Nat.le_of_ble_eq_true rfl) rfl ?_
  exact h
set_option maxHeartbeats 4000000 in
set_option maxRecDepth 100000 in
theorem u12_isMany_5 {m : Mm} {K : Option Value ⊕ String → Mm → Prop} (hm : St m) {v1 : Int32} {v2 : Int32} {v3 : Int32} {v4 : Int32}  (h : vp_in v1 8 ∧ (((mI m 673 (Int32.toNatClampNeg v1)) ≤ v4 → (narrow .boolean (.int v3) = .int v3 ∧ K (.inl (some (.int v3))) m)) ∧ (¬ (mI m 673 (Int32.toNatClampNeg v1)) ≤ v4 → vp_in ((24 * v1) + v4) 192 ∧ ((¬ v3 = 0 → V m12_isMany 45 [some (.ref 668), some (.int v1), some (.int v2), some (.int v3), some (.int v4), some (.int (mI m 674 (Int32.toNatClampNeg ((24 * v1) + v4)))), none] [] m K) ∧ (v3 = 0 → C m12_bringsMany [(.ref 668), (.int v1), (.int (mI m 674 (Int32.toNatClampNeg ((24 * v1) + v4)))), (.int v2)] m (fun o m5 => ∃ x7 : Int32, o = .inl (some (.int x7)) ∧ St m5 ∧ ((x7 = 0 → V m12_isMany 50 [some (.ref 668), some (.int v1), some (.int v2), some (.int v3), some (.int v4), some (.int (mI m 674 (Int32.toNatClampNeg ((24 * v1) + v4)))), none] [(.int 0)] m5 K) ∧ (¬ x7 = 0 → V m12_isMany 45 [some (.ref 668), some (.int v1), some (.int v2), some (.int v3), some (.int v4), some (.int (mI m 674 (Int32.toNatClampNeg ((24 * v1) + v4)))), none] [] m5 K)))))))) : V m12_isMany 5 [some (.ref 668), some (.int v1), some (.int v2), some (.int v3), some (.int v4), none, none] [] m K := by
  refine r_iload (y := m12_isMany) dX12_isMany_5 rfl ?_
  refine r_aload_n (y := m12_isMany) dX12_isMany_7 rfl rfl ?_
  refine g_X12_23 (y := m12_isMany) rfl dX12_isMany_8 hm ?_
  refine r_iload_n (y := m12_isMany) dX12_isMany_11 rfl rfl ?_
  obtain ⟨hb1, h⟩ := h
  refine r_iald (y := m12_isMany) (n := 8) dX12_isMany_12 (sa_673 hm) hb1 ?_
  refine r_icmp_ge (y := m12_isMany) (tgt := 105) dX12_isMany_13 (by decide) (fun hc2 => ?_) (fun hc2 => ?_)
  · have h := h.1 hc2
    refine r_iload_n (y := m12_isMany) dX12_isMany_105 rfl rfl ?_
    exact r_iret (y := m12_isMany) (ty := .boolean) dX12_isMany_106 rfl h.1 h.2
  · have h := h.2 hc2
    refine r_aload_n (y := m12_isMany) dX12_isMany_16 rfl rfl ?_
    refine g_X12_26 (y := m12_isMany) rfl dX12_isMany_17 hm ?_
    refine r_bipush (y := m12_isMany) (v := 24) dX12_isMany_20 (by decide) ?_
    refine r_iload_n (y := m12_isMany) dX12_isMany_22 rfl rfl ?_
    refine r_imul (y := m12_isMany) dX12_isMany_23 ?_
    refine r_iload (y := m12_isMany) dX12_isMany_24 rfl ?_
    refine r_iadd (y := m12_isMany) dX12_isMany_26 ?_
    obtain ⟨hb3, h⟩ := h
    refine r_iald (y := m12_isMany) (n := 192) dX12_isMany_27 (sa_674 hm) hb3 ?_
    refine r_istore (y := m12_isMany) (L' := [some (.ref 668), some (.int v1), some (.int v2), some (.int v3), some (.int v4), some (.int (mI m 674 (Int32.toNatClampNeg ((24 * v1) + v4)))), none]) dX12_isMany_28 (Nat.le_of_ble_eq_true rfl) rfl ?_
    refine r_iload_n (y := m12_isMany) dX12_isMany_30 rfl rfl ?_
    refine r_if_ne (y := m12_isMany) (tgt := 45) dX12_isMany_31 (by decide) (fun hc4 => ?_) (fun hc4 => ?_)
    · have h := h.1 hc4
      exact h
    · have h := h.2 hc4
      refine r_aload_n (y := m12_isMany) dX12_isMany_34 rfl rfl ?_
      refine r_iload_n (y := m12_isMany) dX12_isMany_35 rfl rfl ?_
      refine r_iload (y := m12_isMany) dX12_isMany_36 rfl ?_
      refine r_iload_n (y := m12_isMany) dX12_isMany_38 rfl rfl ?_
      refine r_callV (y := m12_isMany) (As := [(.int v1), (.int (mI m 674 (Int32.toNatClampNeg ((24 * v1) + v4)))), (.int v2)]) (b := 668) (ci := 12) dX12_isMany_39 rfl k12_bringsMany lm_X12_211 rfl ⟨by decide, by decide⟩ (so_668 hm) (by decide) rfl (Nat.le_of_ble_eq_true rfl) (C.mono h ?_)
      rintro _ m5 ⟨x7, rfl, hm6, h⟩
      refine ⟨_, rfl, ?_⟩
      refine r_if_eq (y := m12_isMany) (tgt := 49) dX12_isMany_42 (by decide) (fun hc8 => ?_) (fun hc8 => ?_)
      · have h := h.1 hc8
        refine r_iconst (y := m12_isMany) (v := 0) dX12_isMany_49 (by decide) ?_
        exact h
      · have h := h.2 hc8
        exact h
set_option maxHeartbeats 4000000 in
set_option maxRecDepth 100000 in
theorem u12_isMany_45 {m : Mm} {K : Option Value ⊕ String → Mm → Prop} (hm : St m) {v1 : Int32} {v2 : Int32} {v3 : Int32} {v4 : Int32} {v5 : Int32}  (h : V m12_isMany 50 [some (.ref 668), some (.int v1), some (.int v2), some (.int v3), some (.int v4), some (.int v5), none] [(.int 1)] m K) : V m12_isMany 45 [some (.ref 668), some (.int v1), some (.int v2), some (.int v3), some (.int v4), some (.int v5), none] [] m K := by
  refine r_iconst (y := m12_isMany) (v := 1) dX12_isMany_45 (by decide) ?_
  refine r_goto (y := m12_isMany) (tgt := 50) dX12_isMany_46 (by decide) ?_
  exact h
set_option maxHeartbeats 4000000 in
set_option maxRecDepth 100000 in
theorem u12_isMany_50 {m : Mm} {K : Option Value ⊕ String → Mm → Prop} (hm : St m) {v1 : Int32} {v2 : Int32} {v3 : Int32} {v4 : Int32} {v5 : Int32} {s0 : Int32}  (h : V m12_isMany 54 [some (.ref 668), some (.int v1), some (.int v2), some (.int s0), some (.int v4), some (.int v5), some (.int 0)] [] m K) : V m12_isMany 50 [some (.ref 668), some (.int v1), some (.int v2), some (.int v3), some (.int v4), some (.int v5), none] [(.int s0)] m K := by
  refine r_istore_n (y := m12_isMany) (L' := [some (.ref 668), some (.int v1), some (.int v2), some (.int s0), some (.int v4), some (.int v5), none]) dX12_isMany_50 rfl (Nat.le_of_ble_eq_true rfl) rfl ?_
  refine r_iconst (y := m12_isMany) (v := 0) dX12_isMany_51 (by decide) ?_
  refine r_istore (y := m12_isMany) (L' := [some (.ref 668), some (.int v1), some (.int v2), some (.int s0), some (.int v4), some (.int v5), some (.int 0)]) dX12_isMany_52 (Nat.le_of_ble_eq_true rfl) rfl ?_
  exact h
set_option maxHeartbeats 4000000 in
set_option maxRecDepth 100000 in
theorem u12_isMany_54 {m : Mm} {K : Option Value ⊕ String → Mm → Prop} (hm : St m) {v1 : Int32} {v2 : Int32} {v3 : Int32} {v4 : Int32} {v5 : Int32} {v6 : Int32}  (h : ((v4 ≤ v6 → V m12_isMany 5 [some (.ref 668), some (.int v1), some (.int v2), some (.int v3), some (.int (v4 + 1)), some (.int v5), some (.int v6)] [] m K) ∧ (¬ v4 ≤ v6 → ((¬ v3 = 0 → V m12_isMany 87 [some (.ref 668), some (.int v1), some (.int v2), some (.int v3), some (.int v4), some (.int v5), some (.int v6)] [] m K) ∧ (v3 = 0 → vp_in ((24 * v1) + v6) 192 ∧ C m12_doRulesMeet [(.ref 668), (.int v1), (.int v5), (.int (mI m 674 (Int32.toNatClampNeg ((24 * v1) + v6))))] m (fun o m4 => ∃ x6 : Int32, o = .inl (some (.int x6)) ∧ St m4 ∧ ((x6 = 0 → V m12_isMany 92 [some (.ref 668), some (.int v1), some (.int v2), some (.int v3), some (.int v4), some (.int v5), some (.int v6)] [(.int 0)] m4 K) ∧ (¬ x6 = 0 → V m12_isMany 87 [some (.ref 668), some (.int v1), some (.int v2), some (.int v3), some (.int v4), some (.int v5), some (.int v6)] [] m4 K)))))))) : V m12_isMany 54 [some (.ref 668), some (.int v1), some (.int v2), some (.int v3), some (.int v4), some (.int v5), some (.int v6)] [] m K := by
  refine r_iload (y := m12_isMany) dX12_isMany_54 rfl ?_
  refine r_iload (y := m12_isMany) dX12_isMany_56 rfl ?_
  refine r_icmp_ge (y := m12_isMany) (tgt := 99) dX12_isMany_58 (by decide) (fun hc1 => ?_) (fun hc1 => ?_)
  · have h := h.1 hc1
    refine r_iinc (y := m12_isMany) (v := (v4 + 1)) (L' := [some (.ref 668), some (.int v1), some (.int v2), some (.int v3), some (.int (v4 + 1)), some (.int v5), some (.int v6)]) dX12_isMany_99 rfl (by rfl) rfl ?_
    refine r_goto (y := m12_isMany) (tgt := 5) dX12_isMany_102 (by decide) ?_
    exact h
  · have h := h.2 hc1
    refine r_iload_n (y := m12_isMany) dX12_isMany_61 rfl rfl ?_
    refine r_if_ne (y := m12_isMany) (tgt := 87) dX12_isMany_62 (by decide) (fun hc2 => ?_) (fun hc2 => ?_)
    · have h := h.1 hc2
      exact h
    · have h := h.2 hc2
      refine r_aload_n (y := m12_isMany) dX12_isMany_65 rfl rfl ?_
      refine r_iload_n (y := m12_isMany) dX12_isMany_66 rfl rfl ?_
      refine r_iload (y := m12_isMany) dX12_isMany_67 rfl ?_
      refine r_aload_n (y := m12_isMany) dX12_isMany_69 rfl rfl ?_
      refine g_X12_26 (y := m12_isMany) rfl dX12_isMany_70 hm ?_
      refine r_bipush (y := m12_isMany) (v := 24) dX12_isMany_73 (by decide) ?_
      refine r_iload_n (y := m12_isMany) dX12_isMany_75 rfl rfl ?_
      refine r_imul (y := m12_isMany) dX12_isMany_76 ?_
      refine r_iload (y := m12_isMany) dX12_isMany_77 rfl ?_
      refine r_iadd (y := m12_isMany) dX12_isMany_79 ?_
      obtain ⟨hb3, h⟩ := h
      refine r_iald (y := m12_isMany) (n := 192) dX12_isMany_80 (sa_674 hm) hb3 ?_
      refine r_callV (y := m12_isMany) (As := [(.int v1), (.int v5), (.int (mI m 674 (Int32.toNatClampNeg ((24 * v1) + v6))))]) (b := 668) (ci := 12) dX12_isMany_81 rfl k12_doRulesMeet lm_X12_214 rfl ⟨by decide, by decide⟩ (so_668 hm) (by decide) rfl (Nat.le_of_ble_eq_true rfl) (C.mono h ?_)
      rintro _ m4 ⟨x6, rfl, hm5, h⟩
      refine ⟨_, rfl, ?_⟩
      refine r_if_eq (y := m12_isMany) (tgt := 91) dX12_isMany_84 (by decide) (fun hc7 => ?_) (fun hc7 => ?_)
      · have h := h.1 hc7
        refine r_iconst (y := m12_isMany) (v := 0) dX12_isMany_91 (by decide) ?_
        exact h
      · have h := h.2 hc7
        exact h
set_option maxHeartbeats 4000000 in
set_option maxRecDepth 100000 in
theorem u12_isMany_87 {m : Mm} {K : Option Value ⊕ String → Mm → Prop} (hm : St m) {v1 : Int32} {v2 : Int32} {v3 : Int32} {v4 : Int32} {v5 : Int32} {v6 : Int32}  (h : V m12_isMany 92 [some (.ref 668), some (.int v1), some (.int v2), some (.int v3), some (.int v4), some (.int v5), some (.int v6)] [(.int 1)] m K) : V m12_isMany 87 [some (.ref 668), some (.int v1), some (.int v2), some (.int v3), some (.int v4), some (.int v5), some (.int v6)] [] m K := by
  refine r_iconst (y := m12_isMany) (v := 1) dX12_isMany_87 (by decide) ?_
  refine r_goto (y := m12_isMany) (tgt := 92) dX12_isMany_88 (by decide) ?_
  exact h
set_option maxHeartbeats 4000000 in
set_option maxRecDepth 100000 in
theorem u12_isMany_92 {m : Mm} {K : Option Value ⊕ String → Mm → Prop} (hm : St m) {v1 : Int32} {v2 : Int32} {v3 : Int32} {v4 : Int32} {v5 : Int32} {v6 : Int32} {s0 : Int32}  (h : V m12_isMany 54 [some (.ref 668), some (.int v1), some (.int v2), some (.int s0), some (.int v4), some (.int v5), some (.int (v6 + 1))] [] m K) : V m12_isMany 92 [some (.ref 668), some (.int v1), some (.int v2), some (.int v3), some (.int v4), some (.int v5), some (.int v6)] [(.int s0)] m K := by
  refine r_istore_n (y := m12_isMany) (L' := [some (.ref 668), some (.int v1), some (.int v2), some (.int s0), some (.int v4), some (.int v5), some (.int v6)]) dX12_isMany_92 rfl (Nat.le_of_ble_eq_true rfl) rfl ?_
  refine r_iinc (y := m12_isMany) (v := (v6 + 1)) (L' := [some (.ref 668), some (.int v1), some (.int v2), some (.int s0), some (.int v4), some (.int v5), some (.int (v6 + 1))]) dX12_isMany_93 rfl (by rfl) rfl ?_
  refine r_goto (y := m12_isMany) (tgt := 54) dX12_isMany_96 (by decide) ?_
  exact h
set_option maxHeartbeats 4000000 in
set_option maxRecDepth 100000 in
theorem u12_unrule {m : Mm} {K : Option Value ⊕ String → Mm → Prop} (hm : St m) {a0 : Int32}  (h : C m12_isFunction [(.ref 668), (.int a0)] m (fun o m1 => ∃ x3 : Int32, o = .inl (some (.int x3)) ∧ St m1 ∧ ((¬ x3 = 0 → vp_in a0 8 ∧ ((¬ (mI m1 673 (Int32.toNatClampNeg a0)) = 0 → V m12_unrule 27 [some (.ref 668), some (.int a0)] [(.int 0), (.ref 668)] m1 K) ∧ ((mI m1 673 (Int32.toNatClampNeg a0)) = 0 → V m12_unrule 27 [some (.ref 668), some (.int a0)] [(.int 2), (.ref 668)] m1 K))) ∧ (x3 = 0 → V m12_unrule 27 [some (.ref 668), some (.int a0)] [(.int 1), (.ref 668)] m1 K)))) : V m12_unrule 0 [some (.ref 668), some (.int a0)] [] m K := by
  refine r_aload_n (y := m12_unrule) dX12_unrule_0 rfl rfl ?_
  refine r_aload_n (y := m12_unrule) dX12_unrule_1 rfl rfl ?_
  refine r_iload_n (y := m12_unrule) dX12_unrule_2 rfl rfl ?_
  refine r_callV (y := m12_unrule) (As := [(.int a0)]) (b := 668) (ci := 12) dX12_unrule_3 rfl k12_isFunction lm_X12_180 rfl ⟨by decide, by decide⟩ (so_668 hm) (by decide) rfl (Nat.le_of_ble_eq_true rfl) (C.mono h ?_)
  rintro _ m1 ⟨x3, rfl, hm2, h⟩
  refine ⟨_, rfl, ?_⟩
  refine r_if_ne (y := m12_unrule) (tgt := 13) dX12_unrule_6 (by decide) (fun hc4 => ?_) (fun hc4 => ?_)
  · have h := h.1 hc4
    refine r_aload_n (y := m12_unrule) dX12_unrule_13 rfl rfl ?_
    refine g_X12_23 (y := m12_unrule) rfl dX12_unrule_14 hm2 ?_
    refine r_iload_n (y := m12_unrule) dX12_unrule_17 rfl rfl ?_
    obtain ⟨hb5, h⟩ := h
    refine r_iald (y := m12_unrule) (n := 8) dX12_unrule_18 (sa_673 hm2) hb5 ?_
    refine r_if_ne (y := m12_unrule) (tgt := 26) dX12_unrule_19 (by decide) (fun hc6 => ?_) (fun hc6 => ?_)
    · have h := h.1 hc6
      refine r_iconst (y := m12_unrule) (v := 0) dX12_unrule_26 (by decide) ?_
      exact h
    · have h := h.2 hc6
      refine r_iconst (y := m12_unrule) (v := 2) dX12_unrule_22 (by decide) ?_
      refine r_goto (y := m12_unrule) (tgt := 27) dX12_unrule_23 (by decide) ?_
      exact h
  · have h := h.2 hc4
    refine r_iconst (y := m12_unrule) (v := 1) dX12_unrule_9 (by decide) ?_
    refine r_goto (y := m12_unrule) (tgt := 27) dX12_unrule_10 (by decide) ?_
    exact h
set_option maxHeartbeats 4000000 in
set_option maxRecDepth 100000 in
theorem u12_unrule_27 {m : Mm} {K : Option Value ⊕ String → Mm → Prop} (hm : St m) {v1 : Int32} {s1 : Int32}  (h : ((s1 ≤ 0 → vp_in v1 8 ∧ vp_in v1 8 ∧ vp_in v1 8 ∧ vp_in ((24 * v1) + ((mI m 673 (Int32.toNatClampNeg v1)) - 1)) 192 ∧ vp_in (mI m 674 (Int32.toNatClampNeg ((24 * v1) + ((mI m 673 (Int32.toNatClampNeg v1)) - 1)))) 24 ∧ vp_in v1 8 ∧ K (.inl (some (.int ((mI m 673 (Int32.toNatClampNeg v1)) - 1)))) (mSetI (mSetI (mSetI (mSetI m 668 12 s1) 673 (Int32.toNatClampNeg v1) ((mI m 673 (Int32.toNatClampNeg v1)) - 1)) 675 (Int32.toNatClampNeg (mI m 674 (Int32.toNatClampNeg ((24 * v1) + ((mI m 673 (Int32.toNatClampNeg v1)) - 1))))) 0) 668 9 ((mI m 668 9) - 1))) ∧ (¬ s1 ≤ 0 → K (.inl (some (.int 0))) (mSetI m 668 12 s1)))) : V m12_unrule 27 [some (.ref 668), some (.int v1)] [(.int s1), (.ref 668)] m K := by
  refine p_X12_147 (y := m12_unrule) rfl dX12_unrule_27 hm ?_
  refine r_aload_n (y := m12_unrule) dX12_unrule_30 rfl rfl ?_
  refine g_X12_147 (y := m12_unrule) rfl dX12_unrule_31 (St.i hm) ?_
  refine V.top (b := s1) (by first | rfl | simp [mI_set, mI_setR]) ?_
  refine r_if_le (y := m12_unrule) (tgt := 39) dX12_unrule_34 (by decide) (fun hc1 => ?_) (fun hc1 => ?_)
  · have h := h.1 hc1
    refine r_aload_n (y := m12_unrule) dX12_unrule_39 rfl rfl ?_
    refine g_X12_23 (y := m12_unrule) rfl dX12_unrule_40 (St.i hm) ?_
    refine r_iload_n (y := m12_unrule) dX12_unrule_43 rfl rfl ?_
    refine r_dup2 (y := m12_unrule) dX12_unrule_44 ?_
    obtain ⟨hb2, h⟩ := h
    refine r_iald (y := m12_unrule) (n := 8) dX12_unrule_45 (sa_673 (St.i hm)) hb2 ?_
    refine V.top (b := (mI m 673 (Int32.toNatClampNeg v1))) (by first | rfl | simp [mI_set, mI_setR]) ?_
    refine r_iconst (y := m12_unrule) (v := 1) dX12_unrule_46 (by decide) ?_
    refine r_isub (y := m12_unrule) dX12_unrule_47 ?_
    obtain ⟨hb3, h⟩ := h
    refine r_iast (y := m12_unrule) (n := 8) dX12_unrule_48 (sa_673 (St.i hm)) hb3 ?_
    refine r_aload_n (y := m12_unrule) dX12_unrule_49 rfl rfl ?_
    refine g_X12_29 (y := m12_unrule) rfl dX12_unrule_50 (St.i (St.i hm)) ?_
    refine r_aload_n (y := m12_unrule) dX12_unrule_53 rfl rfl ?_
    refine g_X12_26 (y := m12_unrule) rfl dX12_unrule_54 (St.i (St.i hm)) ?_
    refine r_bipush (y := m12_unrule) (v := 24) dX12_unrule_57 (by decide) ?_
    refine r_iload_n (y := m12_unrule) dX12_unrule_59 rfl rfl ?_
    refine r_imul (y := m12_unrule) dX12_unrule_60 ?_
    refine r_aload_n (y := m12_unrule) dX12_unrule_61 rfl rfl ?_
    refine g_X12_23 (y := m12_unrule) rfl dX12_unrule_62 (St.i (St.i hm)) ?_
    refine r_iload_n (y := m12_unrule) dX12_unrule_65 rfl rfl ?_
    obtain ⟨hb4, h⟩ := h
    refine r_iald (y := m12_unrule) (n := 8) dX12_unrule_66 (sa_673 (St.i (St.i hm))) hb4 ?_
    refine V.top (b := ((mI m 673 (Int32.toNatClampNeg v1)) - 1)) (by first | rfl | simp [mI_set, mI_setR]) ?_
    refine r_iadd (y := m12_unrule) dX12_unrule_67 ?_
    obtain ⟨hb5, h⟩ := h
    refine r_iald (y := m12_unrule) (n := 192) dX12_unrule_68 (sa_674 (St.i (St.i hm))) hb5 ?_
    refine V.top (b := (mI m 674 (Int32.toNatClampNeg ((24 * v1) + ((mI m 673 (Int32.toNatClampNeg v1)) - 1))))) (by first | rfl | simp [mI_set, mI_setR]) ?_
    refine r_iconst (y := m12_unrule) (v := 0) dX12_unrule_69 (by decide) ?_
    obtain ⟨hb6, h⟩ := h
    refine r_zast (y := m12_unrule) (n := 24) dX12_unrule_70 (sa_675 (St.i (St.i hm))) hb6 (by decide) ?_
    refine r_aload_n (y := m12_unrule) dX12_unrule_71 rfl rfl ?_
    refine r_dup_r (y := m12_unrule) dX12_unrule_72 ?_
    refine g_X12_191 (y := m12_unrule) rfl dX12_unrule_73 (St.i (St.i (St.i hm))) ?_
    refine V.top (b := (mI m 668 9)) (by first | rfl | simp [mI_set, mI_setR]) ?_
    refine r_iconst (y := m12_unrule) (v := 1) dX12_unrule_76 (by decide) ?_
    refine r_isub (y := m12_unrule) dX12_unrule_77 ?_
    refine p_X12_191 (y := m12_unrule) rfl dX12_unrule_78 (St.i (St.i (St.i hm))) ?_
    refine r_aload_n (y := m12_unrule) dX12_unrule_81 rfl rfl ?_
    refine g_X12_23 (y := m12_unrule) rfl dX12_unrule_82 (St.i (St.i (St.i (St.i hm)))) ?_
    refine r_iload_n (y := m12_unrule) dX12_unrule_85 rfl rfl ?_
    obtain ⟨hb7, h⟩ := h
    refine r_iald (y := m12_unrule) (n := 8) dX12_unrule_86 (sa_673 (St.i (St.i (St.i (St.i hm))))) hb7 ?_
    refine V.top (b := ((mI m 673 (Int32.toNatClampNeg v1)) - 1)) (by first | rfl | simp [mI_set, mI_setR]) ?_
    exact r_iret (y := m12_unrule) dX12_unrule_87 rfl rfl h
  · have h := h.2 hc1
    refine r_iconst (y := m12_unrule) (v := 0) dX12_unrule_37 (by decide) ?_
    exact r_iret (y := m12_unrule) dX12_unrule_38 rfl rfl h
set_option maxHeartbeats 4000000 in
set_option maxRecDepth 100000 in
theorem u12_goal {m : Mm} {K : Option Value ⊕ String → Mm → Prop} (hm : St m) {a0 : Int32}  (h : C m12_isNode [(.ref 668), (.int a0)] m (fun o m1 => ∃ x3 : Int32, o = .inl (some (.int x3)) ∧ St m1 ∧ ((x3 = 0 → V m12_goal 14 [some (.ref 668), some (.int a0)] [(.int 1), (.ref 668)] m1 K) ∧ (¬ x3 = 0 → V m12_goal 14 [some (.ref 668), some (.int a0)] [(.int 0), (.ref 668)] m1 K)))) : V m12_goal 0 [some (.ref 668), some (.int a0)] [] m K := by
  refine r_aload_n (y := m12_goal) dX12_goal_0 rfl rfl ?_
  refine r_aload_n (y := m12_goal) dX12_goal_1 rfl rfl ?_
  refine r_iload_n (y := m12_goal) dX12_goal_2 rfl rfl ?_
  refine r_callV (y := m12_goal) (As := [(.int a0)]) (b := 668) (ci := 12) dX12_goal_3 rfl k12_isNode lm_X12_169 rfl ⟨by decide, by decide⟩ (so_668 hm) (by decide) rfl (Nat.le_of_ble_eq_true rfl) (C.mono h ?_)
  rintro _ m1 ⟨x3, rfl, hm2, h⟩
  refine ⟨_, rfl, ?_⟩
  refine r_if_eq (y := m12_goal) (tgt := 13) dX12_goal_6 (by decide) (fun hc4 => ?_) (fun hc4 => ?_)
  · have h := h.1 hc4
    refine r_iconst (y := m12_goal) (v := 1) dX12_goal_13 (by decide) ?_
    exact h
  · have h := h.2 hc4
    refine r_iconst (y := m12_goal) (v := 0) dX12_goal_9 (by decide) ?_
    refine r_goto (y := m12_goal) (tgt := 14) dX12_goal_10 (by decide) ?_
    exact h
set_option maxHeartbeats 4000000 in
set_option maxRecDepth 100000 in
theorem u12_goal_14 {m : Mm} {K : Option Value ⊕ String → Mm → Prop} (hm : St m) {v1 : Int32} {s1 : Int32}  (h : ((s1 ≤ 0 → C m12_copies [(.ref 668), (.int v1), (.int 0)] (mSetI m 668 12 s1) (fun o m2 => o = .inl none ∧ St m2 ∧ vp_in v1 80 ∧ K (.inl (some (.int (mI m2 671 (Int32.toNatClampNeg v1))))) (mSetI (mSetI m2 668 11 1) 668 50 0))) ∧ (¬ s1 ≤ 0 → K (.inl (some (.int 0))) (mSetI m 668 12 s1)))) : V m12_goal 14 [some (.ref 668), some (.int v1)] [(.int s1), (.ref 668)] m K := by
  refine p_X12_147 (y := m12_goal) rfl dX12_goal_14 hm ?_
  refine r_aload_n (y := m12_goal) dX12_goal_17 rfl rfl ?_
  refine g_X12_147 (y := m12_goal) rfl dX12_goal_18 (St.i hm) ?_
  refine V.top (b := s1) (by first | rfl | simp [mI_set, mI_setR]) ?_
  refine r_if_le (y := m12_goal) (tgt := 26) dX12_goal_21 (by decide) (fun hc1 => ?_) (fun hc1 => ?_)
  · have h := h.1 hc1
    refine r_aload_n (y := m12_goal) dX12_goal_26 rfl rfl ?_
    refine r_iload_n (y := m12_goal) dX12_goal_27 rfl rfl ?_
    refine r_iconst (y := m12_goal) (v := 0) dX12_goal_28 (by decide) ?_
    refine r_callV (y := m12_goal) (As := [(.int v1), (.int 0)]) (b := 668) (ci := 12) dX12_goal_29 rfl k12_copies lm_X12_197 rfl ⟨by decide, by decide⟩ (so_668 (St.i hm)) (by decide) rfl (Nat.le_of_ble_eq_true rfl) (C.mono h ?_)
    rintro _ m2 ⟨rfl, hm3, h⟩
    refine ⟨none, rfl, ?_⟩
    refine r_aload_n (y := m12_goal) dX12_goal_32 rfl rfl ?_
    refine r_iconst (y := m12_goal) (v := 1) dX12_goal_33 (by decide) ?_
    refine p_X12_220 (y := m12_goal) rfl dX12_goal_34 hm3 ⟨by decide, by decide⟩ ?_
    refine r_aload_n (y := m12_goal) dX12_goal_37 rfl rfl ?_
    refine r_iconst (y := m12_goal) (v := 0) dX12_goal_38 (by decide) ?_
    refine p_X12_224 (y := m12_goal) rfl dX12_goal_39 (St.i hm3) ?_
    refine r_aload_n (y := m12_goal) dX12_goal_42 rfl rfl ?_
    refine g_X12_17 (y := m12_goal) rfl dX12_goal_43 (St.i (St.i hm3)) ?_
    refine r_iload_n (y := m12_goal) dX12_goal_46 rfl rfl ?_
    obtain ⟨hb4, h⟩ := h
    refine r_iald (y := m12_goal) (n := 80) dX12_goal_47 (sa_671 (St.i (St.i hm3))) hb4 ?_
    refine V.top (b := (mI m2 671 (Int32.toNatClampNeg v1))) (by first | rfl | simp [mI_set, mI_setR]) ?_
    exact r_iret (y := m12_goal) dX12_goal_48 rfl rfl h
  · have h := h.2 hc1
    refine r_iconst (y := m12_goal) (v := 0) dX12_goal_24 (by decide) ?_
    exact r_iret (y := m12_goal) dX12_goal_25 rfl rfl h
