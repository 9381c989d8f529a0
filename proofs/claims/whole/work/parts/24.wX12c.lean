/-! written by gen/drive.py -/
set_option maxHeartbeats 4000000 in
set_option maxRecDepth 100000 in
theorem w12_rule_135 {m : Mm} {K : Option Value ⊕ String → Mm → Prop} (hm : St m) {v1 : Int32} {v2 : Int32} {v3 : Int32} {v4 : Int32} {v5 : Int32} {v6 : Int32} {v7 : Int32}  (h : vp_in v7 24 ∧ (((mI m 675 (Int32.toNatClampNeg v7)) = 0 → vp_in v7 24 ∧ ((v5 ≤ 0 → V m12_rule 175 [some (.ref 668), some (.int v1), some (.int v2), some (.int v3), some (.int v4), some (.int v5), some (.int v6), some (.int v7)] [] (mSetI m 675 (Int32.toNatClampNeg v7) 1) K) ∧ (¬ v5 ≤ 0 → C m12_patternAt [(.int v7), (.int 0)] (mSetI m 675 (Int32.toNatClampNeg v7) 1) (fun o m5 => ∃ x7 : Int32, o = .inl (some (.int x7)) ∧ St m5 ∧ C m12_copies [(.ref 668), (.int v2), (.int x7)] m5 (fun o m8 => o = .inl none ∧ St m8 ∧ V m12_rule 175 [some (.ref 668), some (.int v1), some (.int v2), some (.int v3), some (.int v4), some (.int v5), some (.int v6), some (.int v7)] [] m8 K))))) ∧ (¬ (mI m 675 (Int32.toNatClampNeg v7)) = 0 → V m12_rule 135 [some (.ref 668), some (.int v1), some (.int v2), some (.int v3), some (.int v4), some (.int v5), some (.int v6), some (.int (v7 + 1))] [] m K))) : V m12_rule 135 [some (.ref 668), some (.int v1), some (.int v2), some (.int v3), some (.int v4), some (.int v5), some (.int v6), some (.int v7)] [] m K := by
  refine r_aload_n (y := m12_rule) dX12_rule_135 rfl rfl ?_
  refine g_X12_29 (y := m12_rule) rfl dX12_rule_136 hm ?_
  refine r_iload (y := m12_rule) dX12_rule_139 rfl ?_
  obtain ⟨hb1, h⟩ := h
  refine r_zald (y := m12_rule) (n := 24) dX12_rule_141 (sa_675 hm) hb1 ?_
  refine r_if_eq (y := m12_rule) (tgt := 151) dX12_rule_142 (by decide) (fun hc2 => ?_) (fun hc2 => ?_)
  · have h := h.1 hc2
    refine r_aload_n (y := m12_rule) dX12_rule_151 rfl rfl ?_
    refine g_X12_29 (y := m12_rule) rfl dX12_rule_152 hm ?_
    refine r_iload (y := m12_rule) dX12_rule_155 rfl ?_
    refine r_iconst (y := m12_rule) (v := 1) dX12_rule_157 (by decide) ?_
    obtain ⟨hb3, h⟩ := h
    refine r_zast (y := m12_rule) (n := 24) dX12_rule_158 (sa_675 hm) hb3 (by decide) ?_
    refine r_iload (y := m12_rule) dX12_rule_159 rfl ?_
    refine r_if_le (y := m12_rule) (tgt := 175) dX12_rule_161 (by decide) (fun hc4 => ?_) (fun hc4 => ?_)
    · have h := h.1 hc4
      exact h
    · have h := h.2 hc4
      refine r_aload_n (y := m12_rule) dX12_rule_164 rfl rfl ?_
      refine r_iload_n (y := m12_rule) dX12_rule_165 rfl rfl ?_
      refine r_iload (y := m12_rule) dX12_rule_166 rfl ?_
      refine r_iconst (y := m12_rule) (v := 0) dX12_rule_168 (by decide) ?_
      refine r_callS (y := m12_rule) (As := [(.int v7), (.int 0)]) dX12_rule_169 rfl k12_patternAt lm_X12_194 rfl ⟨by decide, by decide⟩ (Nat.le_of_ble_eq_true rfl) (C.mono h ?_)
      rintro _ m5 ⟨x7, rfl, hm6, h⟩
      refine ⟨_, rfl, ?_⟩
      refine r_callV (y := m12_rule) (As := [(.int v2), (.int x7)]) (b := 668) (ci := 12) dX12_rule_172 rfl k12_copies lm_X12_197 rfl ⟨by decide, by decide⟩ (so_668 hm6) (by decide) rfl (Nat.le_of_ble_eq_true rfl) (C.mono h ?_)
      rintro _ m8 ⟨rfl, hm9, h⟩
      refine ⟨none, rfl, ?_⟩
      exact h
  · have h := h.2 hc2
    refine r_iinc (y := m12_rule) (v := (v7 + 1)) (L' := [some (.ref 668), some (.int v1), some (.int v2), some (.int v3), some (.int v4), some (.int v5), some (.int v6), some (.int (v7 + 1))]) dX12_rule_145 rfl (by rfl) rfl ?_
    refine r_goto (y := m12_rule) (tgt := 135) dX12_rule_148 (by decide) ?_
    exact h
set_option maxHeartbeats 4000000 in
set_option maxRecDepth 100000 in
theorem w12_rule_175 {m : Mm} {K : Option Value ⊕ String → Mm → Prop} (hm : St m) {v1 : Int32} {v2 : Int32} {v3 : Int32} {v4 : Int32} {v5 : Int32} {v6 : Int32} {v7 : Int32}  (h : ((v5 ≤ 1 → V m12_rule 192 [some (.ref 668), some (.int v1), some (.int v2), some (.int v3), some (.int v4), some (.int v5), some (.int v6), some (.int v7)] [] m K) ∧ (¬ v5 ≤ 1 → C m12_patternAt [(.int v7), (.int 1)] m (fun o m2 => ∃ x4 : Int32, o = .inl (some (.int x4)) ∧ St m2 ∧ C m12_copies [(.ref 668), (.int v3), (.int x4)] m2 (fun o m5 => o = .inl none ∧ St m5 ∧ V m12_rule 192 [some (.ref 668), some (.int v1), some (.int v2), some (.int v3), some (.int v4), some (.int v5), some (.int v6), some (.int v7)] [] m5 K))))) : V m12_rule 175 [some (.ref 668), some (.int v1), some (.int v2), some (.int v3), some (.int v4), some (.int v5), some (.int v6), some (.int v7)] [] m K := by
  refine r_iload (y := m12_rule) dX12_rule_175 rfl ?_
  refine r_iconst (y := m12_rule) (v := 1) dX12_rule_177 (by decide) ?_
  refine r_icmp_le (y := m12_rule) (tgt := 192) dX12_rule_178 (by decide) (fun hc1 => ?_) (fun hc1 => ?_)
  · have h := h.1 hc1
    exact h
  · have h := h.2 hc1
    refine r_aload_n (y := m12_rule) dX12_rule_181 rfl rfl ?_
    refine r_iload_n (y := m12_rule) dX12_rule_182 rfl rfl ?_
    refine r_iload (y := m12_rule) dX12_rule_183 rfl ?_
    refine r_iconst (y := m12_rule) (v := 1) dX12_rule_185 (by decide) ?_
    refine r_callS (y := m12_rule) (As := [(.int v7), (.int 1)]) dX12_rule_186 rfl k12_patternAt lm_X12_194 rfl ⟨by decide, by decide⟩ (Nat.le_of_ble_eq_true rfl) (C.mono h ?_)
    rintro _ m2 ⟨x4, rfl, hm3, h⟩
    refine ⟨_, rfl, ?_⟩
    refine r_callV (y := m12_rule) (As := [(.int v3), (.int x4)]) (b := 668) (ci := 12) dX12_rule_189 rfl k12_copies lm_X12_197 rfl ⟨by decide, by decide⟩ (so_668 hm3) (by decide) rfl (Nat.le_of_ble_eq_true rfl) (C.mono h ?_)
    rintro _ m5 ⟨rfl, hm6, h⟩
    refine ⟨none, rfl, ?_⟩
    exact h
set_option maxHeartbeats 4000000 in
set_option maxRecDepth 100000 in
theorem w12_rule_192 {m : Mm} {K : Option Value ⊕ String → Mm → Prop} (hm : St m) {v1 : Int32} {v2 : Int32} {v3 : Int32} {v4 : Int32} {v5 : Int32} {v6 : Int32} {v7 : Int32}  (h : C m12_patternAt [(.int v7), (.int 2)] m (fun o m1 => ∃ x3 : Int32, o = .inl (some (.int x3)) ∧ St m1 ∧ C m12_copies [(.ref 668), (.int v4), (.int x3)] m1 (fun o m4 => o = .inl none ∧ St m4 ∧ vp_in v1 8 ∧ vp_in ((24 * v1) + (mI m4 673 (Int32.toNatClampNeg v1))) 192 ∧ vp_in v1 8 ∧ vp_in v1 8 ∧ vp_in v1 8 ∧ K (.inl (some (.int (((mI m4 673 (Int32.toNatClampNeg v1)) + 1) - 1)))) (mSetI (mSetI (mSetI m4 674 (Int32.toNatClampNeg ((24 * v1) + (mI m4 673 (Int32.toNatClampNeg v1)))) v7) 673 (Int32.toNatClampNeg v1) ((mI m4 673 (Int32.toNatClampNeg v1)) + 1)) 668 9 ((mI m4 668 9) + 1))))) : V m12_rule 192 [some (.ref 668), some (.int v1), some (.int v2), some (.int v3), some (.int v4), some (.int v5), some (.int v6), some (.int v7)] [] m K := by
  refine r_aload_n (y := m12_rule) dX12_rule_192 rfl rfl ?_
  refine r_iload (y := m12_rule) dX12_rule_193 rfl ?_
  refine r_iload (y := m12_rule) dX12_rule_195 rfl ?_
  refine r_iconst (y := m12_rule) (v := 2) dX12_rule_197 (by decide) ?_
  refine r_callS (y := m12_rule) (As := [(.int v7), (.int 2)]) dX12_rule_198 rfl k12_patternAt lm_X12_194 rfl ⟨by decide, by decide⟩ (Nat.le_of_ble_eq_true rfl) (C.mono h ?_)
  rintro _ m1 ⟨x3, rfl, hm2, h⟩
  refine ⟨_, rfl, ?_⟩
  refine r_callV (y := m12_rule) (As := [(.int v4), (.int x3)]) (b := 668) (ci := 12) dX12_rule_201 rfl k12_copies lm_X12_197 rfl ⟨by decide, by decide⟩ (so_668 hm2) (by decide) rfl (Nat.le_of_ble_eq_true rfl) (C.mono h ?_)
  rintro _ m4 ⟨rfl, hm5, h⟩
  refine ⟨none, rfl, ?_⟩
  refine r_aload_n (y := m12_rule) dX12_rule_204 rfl rfl ?_
  refine g_X12_26 (y := m12_rule) rfl dX12_rule_205 hm5 ?_
  refine r_bipush (y := m12_rule) (v := 24) dX12_rule_208 (by decide) ?_
  refine r_iload_n (y := m12_rule) dX12_rule_210 rfl rfl ?_
  refine r_imul (y := m12_rule) dX12_rule_211 ?_
  refine r_aload_n (y := m12_rule) dX12_rule_212 rfl rfl ?_
  refine g_X12_23 (y := m12_rule) rfl dX12_rule_213 hm5 ?_
  refine r_iload_n (y := m12_rule) dX12_rule_216 rfl rfl ?_
  obtain ⟨hb6, h⟩ := h
  refine r_iald (y := m12_rule) (n := 8) dX12_rule_217 (sa_673 hm5) hb6 ?_
  refine r_iadd (y := m12_rule) dX12_rule_218 ?_
  refine r_iload (y := m12_rule) dX12_rule_219 rfl ?_
  obtain ⟨hb7, h⟩ := h
  refine r_iast (y := m12_rule) (n := 192) dX12_rule_221 (sa_674 hm5) hb7 ?_
  refine r_aload_n (y := m12_rule) dX12_rule_222 rfl rfl ?_
  refine g_X12_23 (y := m12_rule) rfl dX12_rule_223 (St.i hm5) ?_
  refine r_iload_n (y := m12_rule) dX12_rule_226 rfl rfl ?_
  refine r_dup2 (y := m12_rule) dX12_rule_227 ?_
  obtain ⟨hb8, h⟩ := h
  refine r_iald (y := m12_rule) (n := 8) dX12_rule_228 (sa_673 (St.i hm5)) hb8 ?_
  refine V.top (b := (mI m4 673 (Int32.toNatClampNeg v1))) (by first | rfl | simp [mI_set, mI_setR]) ?_
  refine r_iconst (y := m12_rule) (v := 1) dX12_rule_229 (by decide) ?_
  refine r_iadd (y := m12_rule) dX12_rule_230 ?_
  obtain ⟨hb9, h⟩ := h
  refine r_iast (y := m12_rule) (n := 8) dX12_rule_231 (sa_673 (St.i hm5)) hb9 ?_
  refine r_aload_n (y := m12_rule) dX12_rule_232 rfl rfl ?_
  refine r_dup_r (y := m12_rule) dX12_rule_233 ?_
  refine g_X12_191 (y := m12_rule) rfl dX12_rule_234 (St.i (St.i hm5)) ?_
  refine V.top (b := (mI m4 668 9)) (by first | rfl | simp [mI_set, mI_setR]) ?_
  refine r_iconst (y := m12_rule) (v := 1) dX12_rule_237 (by decide) ?_
  refine r_iadd (y := m12_rule) dX12_rule_238 ?_
  refine p_X12_191 (y := m12_rule) rfl dX12_rule_239 (St.i (St.i hm5)) ?_
  refine r_aload_n (y := m12_rule) dX12_rule_242 rfl rfl ?_
  refine g_X12_23 (y := m12_rule) rfl dX12_rule_243 (St.i (St.i (St.i hm5))) ?_
  refine r_iload_n (y := m12_rule) dX12_rule_246 rfl rfl ?_
  obtain ⟨hb10, h⟩ := h
  refine r_iald (y := m12_rule) (n := 8) dX12_rule_247 (sa_673 (St.i (St.i (St.i hm5)))) hb10 ?_
  refine V.top (b := ((mI m4 673 (Int32.toNatClampNeg v1)) + 1)) (by first | rfl | simp [mI_set, mI_setR]) ?_
  refine r_iconst (y := m12_rule) (v := 1) dX12_rule_248 (by decide) ?_
  refine r_isub (y := m12_rule) dX12_rule_249 ?_
  exact r_iret (y := m12_rule) dX12_rule_250 rfl rfl h
set_option maxHeartbeats 4000000 in
set_option maxRecDepth 100000 in
theorem w12_patternAt {m : Mm} {K : Option Value ⊕ String → Mm → Prop} (hm : St m) {a0 : Int32} {a1 : Int32}  (h : K (.inl (some (.int ((12 + (36 * a0)) + (12 * a1))))) m) : V m12_patternAt 0 [some (.int a0), some (.int a1)] [] m K := by
  refine r_bipush (y := m12_patternAt) (v := 12) dX12_patternAt_0 (by decide) ?_
  refine r_bipush (y := m12_patternAt) (v := 36) dX12_patternAt_2 (by decide) ?_
  refine r_iload_n (y := m12_patternAt) dX12_patternAt_4 rfl rfl ?_
  refine r_imul (y := m12_patternAt) dX12_patternAt_5 ?_
  refine r_iadd (y := m12_patternAt) dX12_patternAt_6 ?_
  refine r_bipush (y := m12_patternAt) (v := 12) dX12_patternAt_7 (by decide) ?_
  refine r_iload_n (y := m12_patternAt) dX12_patternAt_9 rfl rfl ?_
  refine r_imul (y := m12_patternAt) dX12_patternAt_10 ?_
  refine r_iadd (y := m12_patternAt) dX12_patternAt_11 ?_
  exact r_iret (y := m12_patternAt) dX12_patternAt_12 rfl rfl h
set_option maxHeartbeats 4000000 in
set_option maxRecDepth 100000 in
theorem w12_unrule {m : Mm} {K : Option Value ⊕ String → Mm → Prop} (hm : St m) {a0 : Int32}  (h : C m12_isFunction [(.ref 668), (.int a0)] m (fun o m1 => ∃ x3 : Int32, o = .inl (some (.int x3)) ∧ St m1 ∧ ((¬ x3 = 0 → vp_in a0 8 ∧ ((¬ (mI m1 673 (Int32.toNatClampNeg a0)) = 0 → (((0 : Int32) ≤ 0 → vp_in a0 8 ∧ vp_in a0 8 ∧ vp_in a0 8 ∧ vp_in ((24 * a0) + ((mI m1 673 (Int32.toNatClampNeg a0)) - 1)) 192 ∧ vp_in (mI m1 674 (Int32.toNatClampNeg ((24 * a0) + ((mI m1 673 (Int32.toNatClampNeg a0)) - 1)))) 24 ∧ vp_in a0 8 ∧ K (.inl (some (.int ((mI m1 673 (Int32.toNatClampNeg a0)) - 1)))) (mSetI (mSetI (mSetI (mSetI m1 668 12 0) 673 (Int32.toNatClampNeg a0) ((mI m1 673 (Int32.toNatClampNeg a0)) - 1)) 675 (Int32.toNatClampNeg (mI m1 674 (Int32.toNatClampNeg ((24 * a0) + ((mI m1 673 (Int32.toNatClampNeg a0)) - 1))))) 0) 668 9 ((mI m1 668 9) - 1))) ∧ (¬ (0 : Int32) ≤ 0 → K (.inl (some (.int 0))) (mSetI m1 668 12 0)))) ∧ ((mI m1 673 (Int32.toNatClampNeg a0)) = 0 → (((2 : Int32) ≤ 0 → vp_in a0 8 ∧ vp_in a0 8 ∧ vp_in a0 8 ∧ vp_in ((24 * a0) + ((mI m1 673 (Int32.toNatClampNeg a0)) - 1)) 192 ∧ vp_in (mI m1 674 (Int32.toNatClampNeg ((24 * a0) + ((mI m1 673 (Int32.toNatClampNeg a0)) - 1)))) 24 ∧ vp_in a0 8 ∧ K (.inl (some (.int ((mI m1 673 (Int32.toNatClampNeg a0)) - 1)))) (mSetI (mSetI (mSetI (mSetI m1 668 12 2) 673 (Int32.toNatClampNeg a0) ((mI m1 673 (Int32.toNatClampNeg a0)) - 1)) 675 (Int32.toNatClampNeg (mI m1 674 (Int32.toNatClampNeg ((24 * a0) + ((mI m1 673 (Int32.toNatClampNeg a0)) - 1))))) 0) 668 9 ((mI m1 668 9) - 1))) ∧ (¬ (2 : Int32) ≤ 0 → K (.inl (some (.int 0))) (mSetI m1 668 12 2)))))) ∧ (x3 = 0 → (((1 : Int32) ≤ 0 → vp_in a0 8 ∧ vp_in a0 8 ∧ vp_in a0 8 ∧ vp_in ((24 * a0) + ((mI m1 673 (Int32.toNatClampNeg a0)) - 1)) 192 ∧ vp_in (mI m1 674 (Int32.toNatClampNeg ((24 * a0) + ((mI m1 673 (Int32.toNatClampNeg a0)) - 1)))) 24 ∧ vp_in a0 8 ∧ K (.inl (some (.int ((mI m1 673 (Int32.toNatClampNeg a0)) - 1)))) (mSetI (mSetI (mSetI (mSetI m1 668 12 1) 673 (Int32.toNatClampNeg a0) ((mI m1 673 (Int32.toNatClampNeg a0)) - 1)) 675 (Int32.toNatClampNeg (mI m1 674 (Int32.toNatClampNeg ((24 * a0) + ((mI m1 673 (Int32.toNatClampNeg a0)) - 1))))) 0) 668 9 ((mI m1 668 9) - 1))) ∧ (¬ (1 : Int32) ≤ 0 → K (.inl (some (.int 0))) (mSetI m1 668 12 1))))))) : V m12_unrule 0 [some (.ref 668), some (.int a0)] [] m K := by
  refine r_aload_n (y := m12_unrule) dX12_unrule_0 rfl rfl ?_
  refine r_aload_n (y := m12_unrule) dX12_unrule_1 rfl rfl ?_
  refine r_iload_n (y := m12_unrule) dX12_unrule_2 rfl rfl ?_
  refine r_callV (y := m12_unrule) (As := [(.int a0)]) (b := 668) (ci := 12) dX12_unrule_3 rfl k12_isFunction lm_X12_180 rfl ⟨by decide, by decide⟩ (so_668 hm) (by decide) rfl (Nat.le_of_ble_eq_true rfl) (C.mono h ?_)
  rintro _ m1 ⟨x3, rfl, hm2, h⟩
  refine ⟨_, rfl, ?_⟩
  refine r_if_ne (y := m12_unrule) (tgt := 13) dX12_unrule_6 (by decide) (fun hc4 => ?_) (fun hc4 => ?_)
  · have h := h.1 hc4
    refine r_aload_n (y := m12_unrule) dX12_unrule_13 rfl rfl ?_
    refine g_X12_23 (y := m12_unrule) rfl dX12_unrule_14 hm2 ?_
    refine r_iload_n (y := m12_unrule) dX12_unrule_17 rfl rfl ?_
    obtain ⟨hb5, h⟩ := h
    refine r_iald (y := m12_unrule) (n := 8) dX12_unrule_18 (sa_673 hm2) hb5 ?_
    refine r_if_ne (y := m12_unrule) (tgt := 26) dX12_unrule_19 (by decide) (fun hc6 => ?_) (fun hc6 => ?_)
    · have h := h.1 hc6
      refine r_iconst (y := m12_unrule) (v := 0) dX12_unrule_26 (by decide) ?_
      refine p_X12_147 (y := m12_unrule) rfl dX12_unrule_27 hm2 ?_
      refine r_aload_n (y := m12_unrule) dX12_unrule_30 rfl rfl ?_
      refine g_X12_147 (y := m12_unrule) rfl dX12_unrule_31 (St.i hm2) ?_
      refine V.top (b := 0) (by first | rfl | simp [mI_set, mI_setR]) ?_
      refine r_if_le (y := m12_unrule) (tgt := 39) dX12_unrule_34 (by decide) (fun hc7 => ?_) (fun hc7 => ?_)
      · have h := h.1 hc7
        refine r_aload_n (y := m12_unrule) dX12_unrule_39 rfl rfl ?_
        refine g_X12_23 (y := m12_unrule) rfl dX12_unrule_40 (St.i hm2) ?_
        refine r_iload_n (y := m12_unrule) dX12_unrule_43 rfl rfl ?_
        refine r_dup2 (y := m12_unrule) dX12_unrule_44 ?_
        obtain ⟨hb8, h⟩ := h
        refine r_iald (y := m12_unrule) (n := 8) dX12_unrule_45 (sa_673 (St.i hm2)) hb8 ?_
        refine V.top (b := (mI m1 673 (Int32.toNatClampNeg a0))) (by first | rfl | simp [mI_set, mI_setR]) ?_
        refine r_iconst (y := m12_unrule) (v := 1) dX12_unrule_46 (by decide) ?_
        refine r_isub (y := m12_unrule) dX12_unrule_47 ?_
        obtain ⟨hb9, h⟩ := h
        refine r_iast (y := m12_unrule) (n := 8) dX12_unrule_48 (sa_673 (St.i hm2)) hb9 ?_
        refine r_aload_n (y := m12_unrule) dX12_unrule_49 rfl rfl ?_
        refine g_X12_29 (y := m12_unrule) rfl dX12_unrule_50 (St.i (St.i hm2)) ?_
        refine r_aload_n (y := m12_unrule) dX12_unrule_53 rfl rfl ?_
        refine g_X12_26 (y := m12_unrule) rfl dX12_unrule_54 (St.i (St.i hm2)) ?_
        refine r_bipush (y := m12_unrule) (v := 24) dX12_unrule_57 (by decide) ?_
        refine r_iload_n (y := m12_unrule) dX12_unrule_59 rfl rfl ?_
        refine r_imul (y := m12_unrule) dX12_unrule_60 ?_
        refine r_aload_n (y := m12_unrule) dX12_unrule_61 rfl rfl ?_
        refine g_X12_23 (y := m12_unrule) rfl dX12_unrule_62 (St.i (St.i hm2)) ?_
        refine r_iload_n (y := m12_unrule) dX12_unrule_65 rfl rfl ?_
        obtain ⟨hb10, h⟩ := h
        refine r_iald (y := m12_unrule) (n := 8) dX12_unrule_66 (sa_673 (St.i (St.i hm2))) hb10 ?_
        refine V.top (b := ((mI m1 673 (Int32.toNatClampNeg a0)) - 1)) (by first | rfl | simp [mI_set, mI_setR]) ?_
        refine r_iadd (y := m12_unrule) dX12_unrule_67 ?_
        obtain ⟨hb11, h⟩ := h
        refine r_iald (y := m12_unrule) (n := 192) dX12_unrule_68 (sa_674 (St.i (St.i hm2))) hb11 ?_
        refine V.top (b := (mI m1 674 (Int32.toNatClampNeg ((24 * a0) + ((mI m1 673 (Int32.toNatClampNeg a0)) - 1))))) (by first | rfl | simp [mI_set, mI_setR]) ?_
        refine r_iconst (y := m12_unrule) (v := 0) dX12_unrule_69 (by decide) ?_
        obtain ⟨hb12, h⟩ := h
        refine r_zast (y := m12_unrule) (n := 24) dX12_unrule_70 (sa_675 (St.i (St.i hm2))) hb12 (by decide) ?_
        refine r_aload_n (y := m12_unrule) dX12_unrule_71 rfl rfl ?_
        refine r_dup_r (y := m12_unrule) dX12_unrule_72 ?_
        refine g_X12_191 (y := m12_unrule) rfl dX12_unrule_73 (St.i (St.i (St.i hm2))) ?_
        refine V.top (b := (mI m1 668 9)) (by first | rfl | simp [mI_set, mI_setR]) ?_
        refine r_iconst (y := m12_unrule) (v := 1) dX12_unrule_76 (by decide) ?_
        refine r_isub (y := m12_unrule) dX12_unrule_77 ?_
        refine p_X12_191 (y := m12_unrule) rfl dX12_unrule_78 (St.i (St.i (St.i hm2))) ?_
        refine r_aload_n (y := m12_unrule) dX12_unrule_81 rfl rfl ?_
        refine g_X12_23 (y := m12_unrule) rfl dX12_unrule_82 (St.i (St.i (St.i (St.i hm2)))) ?_
        refine r_iload_n (y := m12_unrule) dX12_unrule_85 rfl rfl ?_
        obtain ⟨hb13, h⟩ := h
        refine r_iald (y := m12_unrule) (n := 8) dX12_unrule_86 (sa_673 (St.i (St.i (St.i (St.i hm2))))) hb13 ?_
        refine V.top (b := ((mI m1 673 (Int32.toNatClampNeg a0)) - 1)) (by first | rfl | simp [mI_set, mI_setR]) ?_
        exact r_iret (y := m12_unrule) dX12_unrule_87 rfl rfl h
      · have h := h.2 hc7
        refine r_iconst (y := m12_unrule) (v := 0) dX12_unrule_37 (by decide) ?_
        exact r_iret (y := m12_unrule) dX12_unrule_38 rfl rfl h
    · have h := h.2 hc6
      refine r_iconst (y := m12_unrule) (v := 2) dX12_unrule_22 (by decide) ?_
      refine r_goto (y := m12_unrule) (tgt := 27) dX12_unrule_23 (by decide) ?_
      refine p_X12_147 (y := m12_unrule) rfl dX12_unrule_27 hm2 ?_
      refine r_aload_n (y := m12_unrule) dX12_unrule_30 rfl rfl ?_
      refine g_X12_147 (y := m12_unrule) rfl dX12_unrule_31 (St.i hm2) ?_
      refine V.top (b := 2) (by first | rfl | simp [mI_set, mI_setR]) ?_
      refine r_if_le (y := m12_unrule) (tgt := 39) dX12_unrule_34 (by decide) (fun hc14 => ?_) (fun hc14 => ?_)
      · have h := h.1 hc14
        refine r_aload_n (y := m12_unrule) dX12_unrule_39 rfl rfl ?_
        refine g_X12_23 (y := m12_unrule) rfl dX12_unrule_40 (St.i hm2) ?_
        refine r_iload_n (y := m12_unrule) dX12_unrule_43 rfl rfl ?_
        refine r_dup2 (y := m12_unrule) dX12_unrule_44 ?_
        obtain ⟨hb15, h⟩ := h
        refine r_iald (y := m12_unrule) (n := 8) dX12_unrule_45 (sa_673 (St.i hm2)) hb15 ?_
        refine V.top (b := (mI m1 673 (Int32.toNatClampNeg a0))) (by first | rfl | simp [mI_set, mI_setR]) ?_
        refine r_iconst (y := m12_unrule) (v := 1) dX12_unrule_46 (by decide) ?_
        refine r_isub (y := m12_unrule) dX12_unrule_47 ?_
        obtain ⟨hb16, h⟩ := h
        refine r_iast (y := m12_unrule) (n := 8) dX12_unrule_48 (sa_673 (St.i hm2)) hb16 ?_
        refine r_aload_n (y := m12_unrule) dX12_unrule_49 rfl rfl ?_
        refine g_X12_29 (y := m12_unrule) rfl dX12_unrule_50 (St.i (St.i hm2)) ?_
        refine r_aload_n (y := m12_unrule) dX12_unrule_53 rfl rfl ?_
        refine g_X12_26 (y := m12_unrule) rfl dX12_unrule_54 (St.i (St.i hm2)) ?_
        refine r_bipush (y := m12_unrule) (v := 24) dX12_unrule_57 (by decide) ?_
        refine r_iload_n (y := m12_unrule) dX12_unrule_59 rfl rfl ?_
        refine r_imul (y := m12_unrule) dX12_unrule_60 ?_
        refine r_aload_n (y := m12_unrule) dX12_unrule_61 rfl rfl ?_
        refine g_X12_23 (y := m12_unrule) rfl dX12_unrule_62 (St.i (St.i hm2)) ?_
        refine r_iload_n (y := m12_unrule) dX12_unrule_65 rfl rfl ?_
        obtain ⟨hb17, h⟩ := h
        refine r_iald (y := m12_unrule) (n := 8) dX12_unrule_66 (sa_673 (St.i (St.i hm2))) hb17 ?_
        refine V.top (b := ((mI m1 673 (Int32.toNatClampNeg a0)) - 1)) (by first | rfl | simp [mI_set, mI_setR]) ?_
        refine r_iadd (y := m12_unrule) dX12_unrule_67 ?_
        obtain ⟨hb18, h⟩ := h
        refine r_iald (y := m12_unrule) (n := 192) dX12_unrule_68 (sa_674 (St.i (St.i hm2))) hb18 ?_
        refine V.top (b := (mI m1 674 (Int32.toNatClampNeg ((24 * a0) + ((mI m1 673 (Int32.toNatClampNeg a0)) - 1))))) (by first | rfl | simp [mI_set, mI_setR]) ?_
        refine r_iconst (y := m12_unrule) (v := 0) dX12_unrule_69 (by decide) ?_
        obtain ⟨hb19, h⟩ := h
        refine r_zast (y := m12_unrule) (n := 24) dX12_unrule_70 (sa_675 (St.i (St.i hm2))) hb19 (by decide) ?_
        refine r_aload_n (y := m12_unrule) dX12_unrule_71 rfl rfl ?_
        refine r_dup_r (y := m12_unrule) dX12_unrule_72 ?_
        refine g_X12_191 (y := m12_unrule) rfl dX12_unrule_73 (St.i (St.i (St.i hm2))) ?_
        refine V.top (b := (mI m1 668 9)) (by first | rfl | simp [mI_set, mI_setR]) ?_
        refine r_iconst (y := m12_unrule) (v := 1) dX12_unrule_76 (by decide) ?_
        refine r_isub (y := m12_unrule) dX12_unrule_77 ?_
        refine p_X12_191 (y := m12_unrule) rfl dX12_unrule_78 (St.i (St.i (St.i hm2))) ?_
        refine r_aload_n (y := m12_unrule) dX12_unrule_81 rfl rfl ?_
        refine g_X12_23 (y := m12_unrule) rfl dX12_unrule_82 (St.i (St.i (St.i (St.i hm2)))) ?_
        refine r_iload_n (y := m12_unrule) dX12_unrule_85 rfl rfl ?_
        obtain ⟨hb20, h⟩ := h
        refine r_iald (y := m12_unrule) (n := 8) dX12_unrule_86 (sa_673 (St.i (St.i (St.i (St.i hm2))))) hb20 ?_
        refine V.top (b := ((mI m1 673 (Int32.toNatClampNeg a0)) - 1)) (by first | rfl | simp [mI_set, mI_setR]) ?_
        exact r_iret (y := m12_unrule) dX12_unrule_87 rfl rfl h
      · have h := h.2 hc14
        refine r_iconst (y := m12_unrule) (v := 0) dX12_unrule_37 (by decide) ?_
        exact r_iret (y := m12_unrule) dX12_unrule_38 rfl rfl h
  · have h := h.2 hc4
    refine r_iconst (y := m12_unrule) (v := 1) dX12_unrule_9 (by decide) ?_
    refine r_goto (y := m12_unrule) (tgt := 27) dX12_unrule_10 (by decide) ?_
    refine p_X12_147 (y := m12_unrule) rfl dX12_unrule_27 hm2 ?_
    refine r_aload_n (y := m12_unrule) dX12_unrule_30 rfl rfl ?_
    refine g_X12_147 (y := m12_unrule) rfl dX12_unrule_31 (St.i hm2) ?_
    refine V.top (b := 1) (by first | rfl | simp [mI_set, mI_setR]) ?_
    refine r_if_le (y := m12_unrule) (tgt := 39) dX12_unrule_34 (by decide) (fun hc21 => ?_) (fun hc21 => ?_)
    · have h := h.1 hc21
      refine r_aload_n (y := m12_unrule) dX12_unrule_39 rfl rfl ?_
      refine g_X12_23 (y := m12_unrule) rfl dX12_unrule_40 (St.i hm2) ?_
      refine r_iload_n (y := m12_unrule) dX12_unrule_43 rfl rfl ?_
      refine r_dup2 (y := m12_unrule) dX12_unrule_44 ?_
      obtain ⟨hb22, h⟩ := h
      refine r_iald (y := m12_unrule) (n := 8) dX12_unrule_45 (sa_673 (St.i hm2)) hb22 ?_
      refine V.top (b := (mI m1 673 (Int32.toNatClampNeg a0))) (by first | rfl | simp [mI_set, mI_setR]) ?_
      refine r_iconst (y := m12_unrule) (v := 1) dX12_unrule_46 (by decide) ?_
      refine r_isub (y := m12_unrule) dX12_unrule_47 ?_
      obtain ⟨hb23, h⟩ := h
      refine r_iast (y := m12_unrule) (n := 8) dX12_unrule_48 (sa_673 (St.i hm2)) hb23 ?_
      refine r_aload_n (y := m12_unrule) dX12_unrule_49 rfl rfl ?_
      refine g_X12_29 (y := m12_unrule) rfl dX12_unrule_50 (St.i (St.i hm2)) ?_
      refine r_aload_n (y := m12_unrule) dX12_unrule_53 rfl rfl ?_
      refine g_X12_26 (y := m12_unrule) rfl dX12_unrule_54 (St.i (St.i hm2)) ?_
      refine r_bipush (y := m12_unrule) (v := 24) dX12_unrule_57 (by decide) ?_
      refine r_iload_n (y := m12_unrule) dX12_unrule_59 rfl rfl ?_
      refine r_imul (y := m12_unrule) dX12_unrule_60 ?_
      refine r_aload_n (y := m12_unrule) dX12_unrule_61 rfl rfl ?_
      refine g_X12_23 (y := m12_unrule) rfl dX12_unrule_62 (St.i (St.i hm2)) ?_
      refine r_iload_n (y := m12_unrule) dX12_unrule_65 rfl rfl ?_
      obtain ⟨hb24, h⟩ := h
      refine r_iald (y := m12_unrule) (n := 8) dX12_unrule_66 (sa_673 (St.i (St.i hm2))) hb24 ?_
      refine V.top (b := ((mI m1 673 (Int32.toNatClampNeg a0)) - 1)) (by first | rfl | simp [mI_set, mI_setR]) ?_
      refine r_iadd (y := m12_unrule) dX12_unrule_67 ?_
      obtain ⟨hb25, h⟩ := h
      refine r_iald (y := m12_unrule) (n := 192) dX12_unrule_68 (sa_674 (St.i (St.i hm2))) hb25 ?_
      refine V.top (b := (mI m1 674 (Int32.toNatClampNeg ((24 * a0) + ((mI m1 673 (Int32.toNatClampNeg a0)) - 1))))) (by first | rfl | simp [mI_set, mI_setR]) ?_
      refine r_iconst (y := m12_unrule) (v := 0) dX12_unrule_69 (by decide) ?_
      obtain ⟨hb26, h⟩ := h
      refine r_zast (y := m12_unrule) (n := 24) dX12_unrule_70 (sa_675 (St.i (St.i hm2))) hb26 (by decide) ?_
      refine r_aload_n (y := m12_unrule) dX12_unrule_71 rfl rfl ?_
      refine r_dup_r (y := m12_unrule) dX12_unrule_72 ?_
      refine g_X12_191 (y := m12_unrule) rfl dX12_unrule_73 (St.i (St.i (St.i hm2))) ?_
      refine V.top (b := (mI m1 668 9)) (by first | rfl | simp [mI_set, mI_setR]) ?_
      refine r_iconst (y := m12_unrule) (v := 1) dX12_unrule_76 (by decide) ?_
      refine r_isub (y := m12_unrule) dX12_unrule_77 ?_
      refine p_X12_191 (y := m12_unrule) rfl dX12_unrule_78 (St.i (St.i (St.i hm2))) ?_
      refine r_aload_n (y := m12_unrule) dX12_unrule_81 rfl rfl ?_
      refine g_X12_23 (y := m12_unrule) rfl dX12_unrule_82 (St.i (St.i (St.i (St.i hm2)))) ?_
      refine r_iload_n (y := m12_unrule) dX12_unrule_85 rfl rfl ?_
      obtain ⟨hb27, h⟩ := h
      refine r_iald (y := m12_unrule) (n := 8) dX12_unrule_86 (sa_673 (St.i (St.i (St.i (St.i hm2))))) hb27 ?_
      refine V.top (b := ((mI m1 673 (Int32.toNatClampNeg a0)) - 1)) (by first | rfl | simp [mI_set, mI_setR]) ?_
      exact r_iret (y := m12_unrule) dX12_unrule_87 rfl rfl h
    · have h := h.2 hc21
      refine r_iconst (y := m12_unrule) (v := 0) dX12_unrule_37 (by decide) ?_
      exact r_iret (y := m12_unrule) dX12_unrule_38 rfl rfl h
set_option maxHeartbeats 4000000 in
set_option maxRecDepth 100000 in
theorem w12_endOf {m : Mm} {K : Option Value ⊕ String → Mm → Prop} (hm : St m) {a0 : Int32}  (h : V m12_endOf 4 [some (.ref 668), some (.int a0), some (.int 1), some (.int a0)] [] m K) : V m12_endOf 0 [some (.ref 668), some (.int a0), none, none] [] m K := by
  refine r_iconst (y := m12_endOf) (v := 1) dX12_endOf_0 (by decide) ?_
  refine r_istore_n (y := m12_endOf) (L' := [some (.ref 668), some (.int a0), some (.int 1), none]) dX12_endOf_1 rfl (Nat.le_of_ble_eq_true rfl) rfl ?_
  refine r_iload_n (y := m12_endOf) dX12_endOf_2 rfl rfl ?_
  refine r_istore_n (y := m12_endOf) (L' := [some (.ref 668), some (.int a0), some (.int 1), some (.int a0)]) dX12_endOf_3 rfl (Nat.le_of_ble_eq_true rfl) rfl ?_
  exact h
set_option maxHeartbeats 4000000 in
set_option maxRecDepth 100000 in
theorem w12_endOf_4 {m : Mm} {K : Option Value ⊕ String → Mm → Prop} (hm : St m) {v1 : Int32} {v2 : Int32} {v3 : Int32}  (h : ((v2 ≤ 0 → K (.inl (some (.int v3))) m) ∧ (¬ v2 ≤ 0 → vp_in v3 876 ∧ C m12_partsOf [(.ref 668), (.int (mI m 676 (Int32.toNatClampNeg v3)))] m (fun o m3 => ∃ x5 : Int32, o = .inl (some (.int x5)) ∧ St m3 ∧ V m12_endOf 4 [some (.ref 668), some (.int v1), some (.int (v2 + (x5 - 1))), some (.int (v3 + 1))] [] m3 K)))) : V m12_endOf 4 [some (.ref 668), some (.int v1), some (.int v2), some (.int v3)] [] m K := by
  refine r_iload_n (y := m12_endOf) dX12_endOf_4 rfl rfl ?_
  refine r_if_le (y := m12_endOf) (tgt := 29) dX12_endOf_5 (by decide) (fun hc1 => ?_) (fun hc1 => ?_)
  · have h := h.1 hc1
    refine r_iload_n (y := m12_endOf) dX12_endOf_29 rfl rfl ?_
    exact r_iret (y := m12_endOf) dX12_endOf_30 rfl rfl h
  · have h := h.2 hc1
    refine r_iload_n (y := m12_endOf) dX12_endOf_8 rfl rfl ?_
    refine r_aload_n (y := m12_endOf) dX12_endOf_9 rfl rfl ?_
    refine r_aload_n (y := m12_endOf) dX12_endOf_10 rfl rfl ?_
    refine g_X12_32 (y := m12_endOf) rfl dX12_endOf_11 hm ?_
    refine r_iload_n (y := m12_endOf) dX12_endOf_14 rfl rfl ?_
    obtain ⟨hb2, h⟩ := h
    refine r_iald (y := m12_endOf) (n := 876) dX12_endOf_15 (sa_676 hm) hb2 ?_
    refine r_callV (y := m12_endOf) (As := [(.int (mI m 676 (Int32.toNatClampNeg v3)))]) (b := 668) (ci := 12) dX12_endOf_16 rfl k12_partsOf lm_X12_161 rfl ⟨by decide, by decide⟩ (so_668 hm) (by decide) rfl (Nat.le_of_ble_eq_true rfl) (C.mono h ?_)
    rintro _ m3 ⟨x5, rfl, hm4, h⟩
    refine ⟨_, rfl, ?_⟩
    refine r_iconst (y := m12_endOf) (v := 1) dX12_endOf_19 (by decide) ?_
    refine r_isub (y := m12_endOf) dX12_endOf_20 ?_
    refine r_iadd (y := m12_endOf) dX12_endOf_21 ?_
    refine r_istore_n (y := m12_endOf) (L' := [some (.ref 668), some (.int v1), some (.int (v2 + (x5 - 1))), some (.int v3)]) dX12_endOf_22 rfl (Nat.le_of_ble_eq_true rfl) rfl ?_
    refine r_iinc (y := m12_endOf) (v := (v3 + 1)) (L' := [some (.ref 668), some (.int v1), some (.int (v2 + (x5 - 1))), some (.int (v3 + 1))]) dX12_endOf_23 rfl (by rfl) rfl ?_
    refine r_goto (y := m12_endOf) (tgt := 4) dX12_endOf_26 (by decide) ?_
    exact h
set_option maxHeartbeats 4000000 in
set_option maxRecDepth 100000 in
theorem w12_canMeet {m : Mm} {K : Option Value ⊕ String → Mm → Prop} (hm : St m) {a0 : Int32} {a1 : Int32}  (h : C m12_endOf [(.ref 668), (.int a0)] m (fun o m1 => ∃ x3 : Int32, o = .inl (some (.int x3)) ∧ St m1 ∧ V m12_canMeet 12 [some (.ref 668), some (.int a0), some (.int a1), some (.int a0), some (.int a1), some (.int x3)] [] m1 K)) : V m12_canMeet 0 [some (.ref 668), some (.int a0), some (.int a1), none, none, none] [] m K := by
  refine r_iload_n (y := m12_canMeet) dX12_canMeet_0 rfl rfl ?_
  refine r_istore_n (y := m12_canMeet) (L' := [some (.ref 668), some (.int a0), some (.int a1), some (.int a0), none, none]) dX12_canMeet_1 rfl (Nat.le_of_ble_eq_true rfl) rfl ?_
  refine r_iload_n (y := m12_canMeet) dX12_canMeet_2 rfl rfl ?_
  refine r_istore (y := m12_canMeet) (L' := [some (.ref 668), some (.int a0), some (.int a1), some (.int a0), some (.int a1), none]) dX12_canMeet_3 (Nat.le_of_ble_eq_true rfl) rfl ?_
  refine r_aload_n (y := m12_canMeet) dX12_canMeet_5 rfl rfl ?_
  refine r_iload_n (y := m12_canMeet) dX12_canMeet_6 rfl rfl ?_
  refine r_callV (y := m12_canMeet) (As := [(.int a0)]) (b := 668) (ci := 12) dX12_canMeet_7 rfl k12_endOf lm_X12_201 rfl ⟨by decide, by decide⟩ (so_668 hm) (by decide) rfl (Nat.le_of_ble_eq_true rfl) (C.mono h ?_)
  rintro _ m1 ⟨x3, rfl, hm2, h⟩
  refine ⟨_, rfl, ?_⟩
  refine r_istore (y := m12_canMeet) (L' := [some (.ref 668), some (.int a0), some (.int a1), some (.int a0), some (.int a1), some (.int x3)]) dX12_canMeet_10 (Nat.le_of_ble_eq_true rfl) rfl ?_
  exact h
set_option maxHeartbeats 4000000 in
set_option maxRecDepth 100000 in
theorem w12_canMeet_12 {m : Mm} {K : Option Value ⊕ String → Mm → Prop} (hm : St m) {v1 : Int32} {v2 : Int32} {v3 : Int32} {v4 : Int32} {v5 : Int32}  (h : ((v5 ≤ v3 → K (.inl (some (.int 1))) m) ∧ (¬ v5 ≤ v3 → vp_in v3 876 ∧ (((mI m 676 (Int32.toNatClampNeg v3)) < 10 → C m12_endOf [(.ref 668), (.int v3)] m (fun o m4 => ∃ x6 : Int32, o = .inl (some (.int x6)) ∧ St m4 ∧ C m12_endOf [(.ref 668), (.int v4)] m4 (fun o m7 => ∃ x9 : Int32, o = .inl (some (.int x9)) ∧ St m7 ∧ V m12_canMeet 12 [some (.ref 668), some (.int v1), some (.int v2), some (.int x6), some (.int x9), some (.int v5)] [] m7 K))) ∧ (¬ (mI m 676 (Int32.toNatClampNeg v3)) < 10 → vp_in v4 876 ∧ ((10 ≤ (mI m 676 (Int32.toNatClampNeg v4)) → vp_in v3 876 ∧ vp_in v4 876 ∧ (((mI m 676 (Int32.toNatClampNeg v3)) = (mI m 676 (Int32.toNatClampNeg v4)) → V m12_canMeet 12 [some (.ref 668), some (.int v1), some (.int v2), some (.int (v3 + 1)), some (.int (v4 + 1)), some (.int v5)] [] m K) ∧ (¬ (mI m 676 (Int32.toNatClampNeg v3)) = (mI m 676 (Int32.toNatClampNeg v4)) → K (.inl (some (.int 0))) m))) ∧ (¬ 10 ≤ (mI m 676 (Int32.toNatClampNeg v4)) → C m12_endOf [(.ref 668), (.int v3)] m (fun o m15 => ∃ x17 : Int32, o = .inl (some (.int x17)) ∧ St m15 ∧ C m12_endOf [(.ref 668), (.int v4)] m15 (fun o m18 => ∃ x20 : Int32, o = .inl (some (.int x20)) ∧ St m18 ∧ V m12_canMeet 12 [some (.ref 668), some (.int v1), some (.int v2), some (.int x17), some (.int x20), some (.int v5)] [] m18 K))))))))) : V m12_canMeet 12 [some (.ref 668), some (.int v1), some (.int v2), some (.int v3), some (.int v4), some (.int v5)] [] m K := by
  refine r_iload_n (y := m12_canMeet) dX12_canMeet_12 rfl rfl ?_
  refine r_iload (y := m12_canMeet) dX12_canMeet_13 rfl ?_
  refine r_icmp_ge (y := m12_canMeet) (tgt := 85) dX12_canMeet_15 (by decide) (fun hc1 => ?_) (fun hc1 => ?_)
  · have h := h.1 hc1
    refine r_iconst (y := m12_canMeet) (v := 1) dX12_canMeet_85 (by decide) ?_
    exact r_iret (y := m12_canMeet) (ty := .boolean) dX12_canMeet_86 rfl (by decide) h
  · have h := h.2 hc1
    refine r_aload_n (y := m12_canMeet) dX12_canMeet_18 rfl rfl ?_
    refine g_X12_32 (y := m12_canMeet) rfl dX12_canMeet_19 hm ?_
    refine r_iload_n (y := m12_canMeet) dX12_canMeet_22 rfl rfl ?_
    obtain ⟨hb2, h⟩ := h
    refine r_iald (y := m12_canMeet) (n := 876) dX12_canMeet_23 (sa_676 hm) hb2 ?_
    refine r_bipush (y := m12_canMeet) (v := 10) dX12_canMeet_24 (by decide) ?_
    refine r_icmp_lt (y := m12_canMeet) (tgt := 41) dX12_canMeet_26 (by decide) (fun hc3 => ?_) (fun hc3 => ?_)
    · have h := h.1 hc3
      refine r_aload_n (y := m12_canMeet) dX12_canMeet_41 rfl rfl ?_
      refine r_iload_n (y := m12_canMeet) dX12_canMeet_42 rfl rfl ?_
      refine r_callV (y := m12_canMeet) (As := [(.int v3)]) (b := 668) (ci := 12) dX12_canMeet_43 rfl k12_endOf lm_X12_201 rfl ⟨by decide, by decide⟩ (so_668 hm) (by decide) rfl (Nat.le_of_ble_eq_true rfl) (C.mono h ?_)
      rintro _ m4 ⟨x6, rfl, hm5, h⟩
      refine ⟨_, rfl, ?_⟩
      refine r_istore_n (y := m12_canMeet) (L' := [some (.ref 668), some (.int v1), some (.int v2), some (.int x6), some (.int v4), some (.int v5)]) dX12_canMeet_46 rfl (Nat.le_of_ble_eq_true rfl) rfl ?_
      refine r_aload_n (y := m12_canMeet) dX12_canMeet_47 rfl rfl ?_
      refine r_iload (y := m12_canMeet) dX12_canMeet_48 rfl ?_
      refine r_callV (y := m12_canMeet) (As := [(.int v4)]) (b := 668) (ci := 12) dX12_canMeet_50 rfl k12_endOf lm_X12_201 rfl ⟨by decide, by decide⟩ (so_668 hm5) (by decide) rfl (Nat.le_of_ble_eq_true rfl) (C.mono h ?_)
      rintro _ m7 ⟨x9, rfl, hm8, h⟩
      refine ⟨_, rfl, ?_⟩
      refine r_istore (y := m12_canMeet) (L' := [some (.ref 668), some (.int v1), some (.int v2), some (.int x6), some (.int x9), some (.int v5)]) dX12_canMeet_53 (Nat.le_of_ble_eq_true rfl) rfl ?_
      refine r_goto (y := m12_canMeet) (tgt := 12) dX12_canMeet_55 (by decide) ?_
      exact h
    · have h := h.2 hc3
      refine r_aload_n (y := m12_canMeet) dX12_canMeet_29 rfl rfl ?_
      refine g_X12_32 (y := m12_canMeet) rfl dX12_canMeet_30 hm ?_
      refine r_iload (y := m12_canMeet) dX12_canMeet_33 rfl ?_
      obtain ⟨hb10, h⟩ := h
      refine r_iald (y := m12_canMeet) (n := 876) dX12_canMeet_35 (sa_676 hm) hb10 ?_
      refine r_bipush (y := m12_canMeet) (v := 10) dX12_canMeet_36 (by decide) ?_
      refine r_icmp_ge (y := m12_canMeet) (tgt := 58) dX12_canMeet_38 (by decide) (fun hc11 => ?_) (fun hc11 => ?_)
      · have h := h.1 hc11
        refine r_aload_n (y := m12_canMeet) dX12_canMeet_58 rfl rfl ?_
        refine g_X12_32 (y := m12_canMeet) rfl dX12_canMeet_59 hm ?_
        refine r_iload_n (y := m12_canMeet) dX12_canMeet_62 rfl rfl ?_
        obtain ⟨hb12, h⟩ := h
        refine r_iald (y := m12_canMeet) (n := 876) dX12_canMeet_63 (sa_676 hm) hb12 ?_
        refine r_aload_n (y := m12_canMeet) dX12_canMeet_64 rfl rfl ?_
        refine g_X12_32 (y := m12_canMeet) rfl dX12_canMeet_65 hm ?_
        refine r_iload (y := m12_canMeet) dX12_canMeet_68 rfl ?_
        obtain ⟨hb13, h⟩ := h
        refine r_iald (y := m12_canMeet) (n := 876) dX12_canMeet_70 (sa_676 hm) hb13 ?_
        refine r_icmp_eq (y := m12_canMeet) (tgt := 76) dX12_canMeet_71 (by decide) (fun hc14 => ?_) (fun hc14 => ?_)
        · have h := h.1 hc14
          refine r_iinc (y := m12_canMeet) (v := (v3 + 1)) (L' := [some (.ref 668), some (.int v1), some (.int v2), some (.int (v3 + 1)), some (.int v4), some (.int v5)]) dX12_canMeet_76 rfl (by rfl) rfl ?_
          refine r_iinc (y := m12_canMeet) (v := (v4 + 1)) (L' := [some (.ref 668), some (.int v1), some (.int v2), some (.int (v3 + 1)), some (.int (v4 + 1)), some (.int v5)]) dX12_canMeet_79 rfl (by rfl) rfl ?_
          refine r_goto (y := m12_canMeet) (tgt := 12) dX12_canMeet_82 (by decide) ?_
          exact h
        · have h := h.2 hc14
          refine r_iconst (y := m12_canMeet) (v := 0) dX12_canMeet_74 (by decide) ?_
          exact r_iret (y := m12_canMeet) (ty := .boolean) dX12_canMeet_75 rfl (by decide) h
      · have h := h.2 hc11
        refine r_aload_n (y := m12_canMeet) dX12_canMeet_41 rfl rfl ?_
        refine r_iload_n (y := m12_canMeet) dX12_canMeet_42 rfl rfl ?_
        refine r_callV (y := m12_canMeet) (As := [(.int v3)]) (b := 668) (ci := 12) dX12_canMeet_43 rfl k12_endOf lm_X12_201 rfl ⟨by decide, by decide⟩ (so_668 hm) (by decide) rfl (Nat.le_of_ble_eq_true rfl) (C.mono h ?_)
        rintro _ m15 ⟨x17, rfl, hm16, h⟩
        refine ⟨_, rfl, ?_⟩
        refine r_istore_n (y := m12_canMeet) (L' := [some (.ref 668), some (.int v1), some (.int v2), some (.int x17), some (.int v4), some (.int v5)]) dX12_canMeet_46 rfl (Nat.le_of_ble_eq_true rfl) rfl ?_
        refine r_aload_n (y := m12_canMeet) dX12_canMeet_47 rfl rfl ?_
        refine r_iload (y := m12_canMeet) dX12_canMeet_48 rfl ?_
        refine r_callV (y := m12_canMeet) (As := [(.int v4)]) (b := 668) (ci := 12) dX12_canMeet_50 rfl k12_endOf lm_X12_201 rfl ⟨by decide, by decide⟩ (so_668 hm16) (by decide) rfl (Nat.le_of_ble_eq_true rfl) (C.mono h ?_)
        rintro _ m18 ⟨x20, rfl, hm19, h⟩
        refine ⟨_, rfl, ?_⟩
        refine r_istore (y := m12_canMeet) (L' := [some (.ref 668), some (.int v1), some (.int v2), some (.int x17), some (.int x20), some (.int v5)]) dX12_canMeet_53 (Nat.le_of_ble_eq_true rfl) rfl ?_
        refine r_goto (y := m12_canMeet) (tgt := 12) dX12_canMeet_55 (by decide) ?_
        exact h
set_option maxHeartbeats 4000000 in
set_option maxRecDepth 100000 in
theorem w12_doRulesMeet {m : Mm} {K : Option Value ⊕ String → Mm → Prop} (hm : St m) {a0 : Int32} {a1 : Int32} {a2 : Int32}  (h : V m12_doRulesMeet 6 [some (.ref 668), some (.int a0), some (.int a1), some (.int a2), some (.int 1), some (.int 0)] [] m K) : V m12_doRulesMeet 0 [some (.ref 668), some (.int a0), some (.int a1), some (.int a2), none, none] [] m K := by
  refine r_iconst (y := m12_doRulesMeet) (v := 1) dX12_doRulesMeet_0 (by decide) ?_
  refine r_istore (y := m12_doRulesMeet) (L' := [some (.ref 668), some (.int a0), some (.int a1), some (.int a2), some (.int 1), none]) dX12_doRulesMeet_1 (Nat.le_of_ble_eq_true rfl) rfl ?_
  refine r_iconst (y := m12_doRulesMeet) (v := 0) dX12_doRulesMeet_3 (by decide) ?_
  refine r_istore (y := m12_doRulesMeet) (L' := [some (.ref 668), some (.int a0), some (.int a1), some (.int a2), some (.int 1), some (.int 0)]) dX12_doRulesMeet_4 (Nat.le_of_ble_eq_true rfl) rfl ?_
  exact h
set_option maxHeartbeats 4000000 in
set_option maxRecDepth 100000 in
theorem w12_doRulesMeet_6 {m : Mm} {K : Option Value ⊕ String → Mm → Prop} (hm : St m) {v1 : Int32} {v2 : Int32} {v3 : Int32} {v4 : Int32} {v5 : Int32}  (h : vp_in v1 8 ∧ (((mI m 669 (Int32.toNatClampNeg v1)) ≤ v5 → (narrow .boolean (.int v4) = .int v4 ∧ K (.inl (some (.int v4))) m)) ∧ (¬ (mI m 669 (Int32.toNatClampNeg v1)) ≤ v5 → ((v4 = 0 → V m12_doRulesMeet 6 [some (.ref 668), some (.int v1), some (.int v2), some (.int v3), some (.int 0), some (.int (v5 + 1))] [] m K) ∧ (¬ v4 = 0 → C m12_patternAt [(.int v2), (.int v5)] m (fun o m4 => ∃ x6 : Int32, o = .inl (some (.int x6)) ∧ St m4 ∧ C m12_patternAt [(.int v3), (.int v5)] m4 (fun o m7 => ∃ x9 : Int32, o = .inl (some (.int x9)) ∧ St m7 ∧ C m12_canMeet [(.ref 668), (.int x6), (.int x9)] m7 (fun o m10 => ∃ x12 : Int32, o = .inl (some (.int x12)) ∧ St m10 ∧ ((x12 = 0 → V m12_doRulesMeet 6 [some (.ref 668), some (.int v1), some (.int v2), some (.int v3), some (.int 0), some (.int (v5 + 1))] [] m10 K) ∧ (¬ x12 = 0 → V m12_doRulesMeet 6 [some (.ref 668), some (.int v1), some (.int v2), some (.int v3), some (.int 1), some (.int (v5 + 1))] [] m10 K)))))))))) : V m12_doRulesMeet 6 [some (.ref 668), some (.int v1), some (.int v2), some (.int v3), some (.int v4), some (.int v5)] [] m K := by
  refine r_iload (y := m12_doRulesMeet) dX12_doRulesMeet_6 rfl ?_
  refine r_aload_n (y := m12_doRulesMeet) dX12_doRulesMeet_8 rfl rfl ?_
  refine g_X12_7 (y := m12_doRulesMeet) rfl dX12_doRulesMeet_9 hm ?_
  refine r_iload_n (y := m12_doRulesMeet) dX12_doRulesMeet_12 rfl rfl ?_
  obtain ⟨hb1, h⟩ := h
  refine r_iald (y := m12_doRulesMeet) (n := 8) dX12_doRulesMeet_13 (sa_669 hm) hb1 ?_
  refine r_icmp_ge (y := m12_doRulesMeet) (tgt := 54) dX12_doRulesMeet_14 (by decide) (fun hc2 => ?_) (fun hc2 => ?_)
  · have h := h.1 hc2
    refine r_iload (y := m12_doRulesMeet) dX12_doRulesMeet_54 rfl ?_
    exact r_iret (y := m12_doRulesMeet) (ty := .boolean) dX12_doRulesMeet_56 rfl h.1 h.2
  · have h := h.2 hc2
    refine r_iload (y := m12_doRulesMeet) dX12_doRulesMeet_17 rfl ?_
    refine r_if_eq (y := m12_doRulesMeet) (tgt := 45) dX12_doRulesMeet_19 (by decide) (fun hc3 => ?_) (fun hc3 => ?_)
    · have h := h.1 hc3
      refine r_iconst (y := m12_doRulesMeet) (v := 0) dX12_doRulesMeet_45 (by decide) ?_
      refine r_istore (y := m12_doRulesMeet) (L' := [some (.ref 668), some (.int v1), some (.int v2), some (.int v3), some (.int 0), some (.int v5)]) dX12_doRulesMeet_46 (Nat.le_of_ble_eq_true rfl) rfl ?_
      refine r_iinc (y := m12_doRulesMeet) (v := (v5 + 1)) (L' := [some (.ref 668), some (.int v1), some (.int v2), some (.int v3), some (.int 0), some (.int (v5 + 1))]) dX12_doRulesMeet_48 rfl (by rfl) rfl ?_
      refine r_goto (y := m12_doRulesMeet) (tgt := 6) dX12_doRulesMeet_51 (by decide) ?_
      exact h
    · have h := h.2 hc3
      refine r_aload_n (y := m12_doRulesMeet) dX12_doRulesMeet_22 rfl rfl ?_
      refine r_iload_n (y := m12_doRulesMeet) dX12_doRulesMeet_23 rfl rfl ?_
      refine r_iload (y := m12_doRulesMeet) dX12_doRulesMeet_24 rfl ?_
      refine r_callS (y := m12_doRulesMeet) (As := [(.int v2), (.int v5)]) dX12_doRulesMeet_26 rfl k12_patternAt lm_X12_194 rfl ⟨by decide, by decide⟩ (Nat.le_of_ble_eq_true rfl) (C.mono h ?_)
      rintro _ m4 ⟨x6, rfl, hm5, h⟩
      refine ⟨_, rfl, ?_⟩
      refine r_iload_n (y := m12_doRulesMeet) dX12_doRulesMeet_29 rfl rfl ?_
      refine r_iload (y := m12_doRulesMeet) dX12_doRulesMeet_30 rfl ?_
      refine r_callS (y := m12_doRulesMeet) (As := [(.int v3), (.int v5)]) dX12_doRulesMeet_32 rfl k12_patternAt lm_X12_194 rfl ⟨by decide, by decide⟩ (Nat.le_of_ble_eq_true rfl) (C.mono h ?_)
      rintro _ m7 ⟨x9, rfl, hm8, h⟩
      refine ⟨_, rfl, ?_⟩
      refine r_callV (y := m12_doRulesMeet) (As := [(.int x6), (.int x9)]) (b := 668) (ci := 12) dX12_doRulesMeet_35 rfl k12_canMeet lm_X12_204 rfl ⟨by decide, by decide⟩ (so_668 hm8) (by decide) rfl (Nat.le_of_ble_eq_true rfl) (C.mono h ?_)
      rintro _ m10 ⟨x12, rfl, hm11, h⟩
      refine ⟨_, rfl, ?_⟩
      refine r_if_eq (y := m12_doRulesMeet) (tgt := 45) dX12_doRulesMeet_38 (by decide) (fun hc13 => ?_) (fun hc13 => ?_)
      · have h := h.1 hc13
        refine r_iconst (y := m12_doRulesMeet) (v := 0) dX12_doRulesMeet_45 (by decide) ?_
        refine r_istore (y := m12_doRulesMeet) (L' := [some (.ref 668), some (.int v1), some (.int v2), some (.int v3), some (.int 0), some (.int v5)]) dX12_doRulesMeet_46 (Nat.le_of_ble_eq_true rfl) rfl ?_
        refine r_iinc (y := m12_doRulesMeet) (v := (v5 + 1)) (L' := [some (.ref 668), some (.int v1), some (.int v2), some (.int v3), some (.int 0), some (.int (v5 + 1))]) dX12_doRulesMeet_48 rfl (by rfl) rfl ?_
        refine r_goto (y := m12_doRulesMeet) (tgt := 6) dX12_doRulesMeet_51 (by decide) ?_
        exact h
      · have h := h.2 hc13
        refine r_iconst (y := m12_doRulesMeet) (v := 1) dX12_doRulesMeet_41 (by decide) ?_
        refine r_goto (y := m12_doRulesMeet) (tgt := 46) dX12_doRulesMeet_42 (by decide) ?_
        refine r_istore (y := m12_doRulesMeet) (L' := [some (.ref 668), some (.int v1), some (.int v2), some (.int v3), some (.int 1), some (.int v5)]) dX12_doRulesMeet_46 (Nat.le_of_ble_eq_true rfl) rfl ?_
        refine r_iinc (y := m12_doRulesMeet) (v := (v5 + 1)) (L' := [some (.ref 668), some (.int v1), some (.int v2), some (.int v3), some (.int 1), some (.int (v5 + 1))]) dX12_doRulesMeet_48 rfl (by rfl) rfl ?_
        refine r_goto (y := m12_doRulesMeet) (tgt := 6) dX12_doRulesMeet_51 (by decide) ?_
        exact h
set_option maxHeartbeats 4000000 in
set_option maxRecDepth 100000 in
theorem w12_namesAt {m : Mm} {K : Option Value ⊕ String → Mm → Prop} (hm : St m) {a0 : Int32}  (h : C m12_endOf [(.ref 668), (.int a0)] m (fun o m1 => ∃ x3 : Int32, o = .inl (some (.int x3)) ∧ St m1 ∧ V m12_namesAt 11 [some (.ref 668), some (.int a0), some (.int 0), some (.int x3), some (.int a0)] [] m1 K)) : V m12_namesAt 0 [some (.ref 668), some (.int a0), none, none, none] [] m K := by
  refine r_iconst (y := m12_namesAt) (v := 0) dX12_namesAt_0 (by decide) ?_
  refine r_istore_n (y := m12_namesAt) (L' := [some (.ref 668), some (.int a0), some (.int 0), none, none]) dX12_namesAt_1 rfl (Nat.le_of_ble_eq_true rfl) rfl ?_
  refine r_aload_n (y := m12_namesAt) dX12_namesAt_2 rfl rfl ?_
  refine r_iload_n (y := m12_namesAt) dX12_namesAt_3 rfl rfl ?_
  refine r_callV (y := m12_namesAt) (As := [(.int a0)]) (b := 668) (ci := 12) dX12_namesAt_4 rfl k12_endOf lm_X12_201 rfl ⟨by decide, by decide⟩ (so_668 hm) (by decide) rfl (Nat.le_of_ble_eq_true rfl) (C.mono h ?_)
  rintro _ m1 ⟨x3, rfl, hm2, h⟩
  refine ⟨_, rfl, ?_⟩
  refine r_istore_n (y := m12_namesAt) (L' := [some (.ref 668), some (.int a0), some (.int 0), some (.int x3), none]) dX12_namesAt_7 rfl (Nat.le_of_ble_eq_true rfl) rfl ?_
  refine r_iload_n (y := m12_namesAt) dX12_namesAt_8 rfl rfl ?_
  refine r_istore (y := m12_namesAt) (L' := [some (.ref 668), some (.int a0), some (.int 0), some (.int x3), some (.int a0)]) dX12_namesAt_9 (Nat.le_of_ble_eq_true rfl) rfl ?_
  exact h
set_option maxHeartbeats 4000000 in
set_option maxRecDepth 100000 in
theorem w12_namesAt_11 {m : Mm} {K : Option Value ⊕ String → Mm → Prop} (hm : St m) {v1 : Int32} {v2 : Int32} {v3 : Int32} {v4 : Int32}  (h : ((v3 ≤ v4 → K (.inl (some (.int v2))) m) ∧ (¬ v3 ≤ v4 → vp_in v4 876 ∧ ((10 ≤ (mI m 676 (Int32.toNatClampNeg v4)) → V m12_namesAt 11 [some (.ref 668), some (.int v1), some (.int (v2 ||| 0)), some (.int v3), some (.int (v4 + 1))] [] m K) ∧ (¬ 10 ≤ (mI m 676 (Int32.toNatClampNeg v4)) → vp_in v4 876 ∧ V m12_namesAt 11 [some (.ref 668), some (.int v1), some (.int (v2 ||| (1 <<< ((mI m 676 (Int32.toNatClampNeg v4)) &&& 31)))), some (.int v3), some (.int (v4 + 1))] [] m K))))) : V m12_namesAt 11 [some (.ref 668), some (.int v1), some (.int v2), some (.int v3), some (.int v4)] [] m K := by
  refine r_iload (y := m12_namesAt) dX12_namesAt_11 rfl ?_
  refine r_iload_n (y := m12_namesAt) dX12_namesAt_13 rfl rfl ?_
  refine r_icmp_ge (y := m12_namesAt) (tgt := 51) dX12_namesAt_14 (by decide) (fun hc1 => ?_) (fun hc1 => ?_)
  · have h := h.1 hc1
    refine r_iload_n (y := m12_namesAt) dX12_namesAt_51 rfl rfl ?_
    exact r_iret (y := m12_namesAt) dX12_namesAt_52 rfl rfl h
  · have h := h.2 hc1
    refine r_iload_n (y := m12_namesAt) dX12_namesAt_17 rfl rfl ?_
    refine r_aload_n (y := m12_namesAt) dX12_namesAt_18 rfl rfl ?_
    refine g_X12_32 (y := m12_namesAt) rfl dX12_namesAt_19 hm ?_
    refine r_iload (y := m12_namesAt) dX12_namesAt_22 rfl ?_
    obtain ⟨hb2, h⟩ := h
    refine r_iald (y := m12_namesAt) (n := 876) dX12_namesAt_24 (sa_676 hm) hb2 ?_
    refine r_bipush (y := m12_namesAt) (v := 10) dX12_namesAt_25 (by decide) ?_
    refine r_icmp_ge (y := m12_namesAt) (tgt := 42) dX12_namesAt_27 (by decide) (fun hc3 => ?_) (fun hc3 => ?_)
    · have h := h.1 hc3
      refine r_iconst (y := m12_namesAt) (v := 0) dX12_namesAt_42 (by decide) ?_
      refine r_ior (y := m12_namesAt) dX12_namesAt_43 ?_
      refine r_istore_n (y := m12_namesAt) (L' := [some (.ref 668), some (.int v1), some (.int (v2 ||| 0)), some (.int v3), some (.int v4)]) dX12_namesAt_44 rfl (Nat.le_of_ble_eq_true rfl) rfl ?_
      refine r_iinc (y := m12_namesAt) (v := (v4 + 1)) (L' := [some (.ref 668), some (.int v1), some (.int (v2 ||| 0)), some (.int v3), some (.int (v4 + 1))]) dX12_namesAt_45 rfl (by rfl) rfl ?_
      refine r_goto (y := m12_namesAt) (tgt := 11) dX12_namesAt_48 (by decide) ?_
      exact h
    · have h := h.2 hc3
      refine r_iconst (y := m12_namesAt) (v := 1) dX12_namesAt_30 (by decide) ?_
      refine r_aload_n (y := m12_namesAt) dX12_namesAt_31 rfl rfl ?_
      refine g_X12_32 (y := m12_namesAt) rfl dX12_namesAt_32 hm ?_
      refine r_iload (y := m12_namesAt) dX12_namesAt_35 rfl ?_
      obtain ⟨hb4, h⟩ := h
      refine r_iald (y := m12_namesAt) (n := 876) dX12_namesAt_37 (sa_676 hm) hb4 ?_
      refine r_ishl (y := m12_namesAt) dX12_namesAt_38 ?_
      refine r_goto (y := m12_namesAt) (tgt := 43) dX12_namesAt_39 (by decide) ?_
      refine r_ior (y := m12_namesAt) dX12_namesAt_43 ?_
      refine r_istore_n (y := m12_namesAt) (L' := [some (.ref 668), some (.int v1), some (.int (v2 ||| (1 <<< ((mI m 676 (Int32.toNatClampNeg v4)) &&& 31)))), some (.int v3), some (.int v4)]) dX12_namesAt_44 rfl (Nat.le_of_ble_eq_true rfl) rfl ?_
      refine r_iinc (y := m12_namesAt) (v := (v4 + 1)) (L' := [some (.ref 668), some (.int v1), some (.int (v2 ||| (1 <<< ((mI m 676 (Int32.toNatClampNeg v4)) &&& 31)))), some (.int v3), some (.int (v4 + 1))]) dX12_namesAt_45 rfl (by rfl) rfl ?_
      refine r_goto (y := m12_namesAt) (tgt := 11) dX12_namesAt_48 (by decide) ?_
      exact h
set_option maxHeartbeats 4000000 in
set_option maxRecDepth 100000 in
theorem w12_bringsMany {m : Mm} {K : Option Value ⊕ String → Mm → Prop} (hm : St m) {a0 : Int32} {a1 : Int32} {a2 : Int32}  (h : vp_in a0 8 ∧ (((mI m 669 (Int32.toNatClampNeg a0)) ≤ 0 → vp_in a0 8 ∧ (((mI m 669 (Int32.toNatClampNeg a0)) ≤ 1 → C m12_patternAt [(.int a1), (.int 2)] m (fun o m5 => ∃ x7 : Int32, o = .inl (some (.int x7)) ∧ St m5 ∧ C m12_endOf [(.ref 668), (.int x7)] m5 (fun o m8 => ∃ x10 : Int32, o = .inl (some (.int x10)) ∧ St m8 ∧ V m12_bringsMany 74 [some (.ref 668), some (.int a0), some (.int a1), some (.int a2), some (.int (0 ||| 0)), some (.int x7), some (.int x10), some (.int x7), some (.int 0), none] [] m8 K))) ∧ (¬ (mI m 669 (Int32.toNatClampNeg a0)) ≤ 1 → C m12_patternAt [(.int a1), (.int 1)] m (fun o m11 => ∃ x13 : Int32, o = .inl (some (.int x13)) ∧ St m11 ∧ C m12_namesAt [(.ref 668), (.int x13)] m11 (fun o m14 => ∃ x16 : Int32, o = .inl (some (.int x16)) ∧ St m14 ∧ C m12_patternAt [(.int a1), (.int 2)] m14 (fun o m17 => ∃ x19 : Int32, o = .inl (some (.int x19)) ∧ St m17 ∧ C m12_endOf [(.ref 668), (.int x19)] m17 (fun o m20 => ∃ x22 : Int32, o = .inl (some (.int x22)) ∧ St m20 ∧ V m12_bringsMany 74 [some (.ref 668), some (.int a0), some (.int a1), some (.int a2), some (.int (0 ||| x16)), some (.int x19), some (.int x22), some (.int x19), some (.int 0), none] [] m20 K))))))) ∧ (¬ (mI m 669 (Int32.toNatClampNeg a0)) ≤ 0 → C m12_patternAt [(.int a1), (.int 0)] m (fun o m23 => ∃ x25 : Int32, o = .inl (some (.int x25)) ∧ St m23 ∧ C m12_namesAt [(.ref 668), (.int x25)] m23 (fun o m26 => ∃ x28 : Int32, o = .inl (some (.int x28)) ∧ St m26 ∧ vp_in a0 8 ∧ (((mI m26 669 (Int32.toNatClampNeg a0)) ≤ 1 → C m12_patternAt [(.int a1), (.int 2)] m26 (fun o m31 => ∃ x33 : Int32, o = .inl (some (.int x33)) ∧ St m31 ∧ C m12_endOf [(.ref 668), (.int x33)] m31 (fun o m34 => ∃ x36 : Int32, o = .inl (some (.int x36)) ∧ St m34 ∧ V m12_bringsMany 74 [some (.ref 668), some (.int a0), some (.int a1), some (.int a2), some (.int (x28 ||| 0)), some (.int x33), some (.int x36), some (.int x33), some (.int 0), none] [] m34 K))) ∧ (¬ (mI m26 669 (Int32.toNatClampNeg a0)) ≤ 1 → C m12_patternAt [(.int a1), (.int 1)] m26 (fun o m37 => ∃ x39 : Int32, o = .inl (some (.int x39)) ∧ St m37 ∧ C m12_namesAt [(.ref 668), (.int x39)] m37 (fun o m40 => ∃ x42 : Int32, o = .inl (some (.int x42)) ∧ St m40 ∧ C m12_patternAt [(.int a1), (.int 2)] m40 (fun o m43 => ∃ x45 : Int32, o = .inl (some (.int x45)) ∧ St m43 ∧ C m12_endOf [(.ref 668), (.int x45)] m43 (fun o m46 => ∃ x48 : Int32, o = .inl (some (.int x48)) ∧ St m46 ∧ V m12_bringsMany 74 [some (.ref 668), some (.int a0), some (.int a1), some (.int a2), some (.int (x28 ||| x42)), some (.int x45), some (.int x48), some (.int x45), some (.int 0), none] [] m46 K))))))))))) : V m12_bringsMany 0 [some (.ref 668), some (.int a0), some (.int a1), some (.int a2), none, none, none, none, none, none] [] m K := by
  refine r_aload_n (y := m12_bringsMany) dX12_bringsMany_0 rfl rfl ?_
  refine g_X12_7 (y := m12_bringsMany) rfl dX12_bringsMany_1 hm ?_
  refine r_iload_n (y := m12_bringsMany) dX12_bringsMany_4 rfl rfl ?_
  obtain ⟨hb1, h⟩ := h
  refine r_iald (y := m12_bringsMany) (n := 8) dX12_bringsMany_5 (sa_669 hm) hb1 ?_
  refine r_if_le (y := m12_bringsMany) (tgt := 21) dX12_bringsMany_6 (by decide) (fun hc2 => ?_) (fun hc2 => ?_)
  · have h := h.1 hc2
    refine r_iconst (y := m12_bringsMany) (v := 0) dX12_bringsMany_21 (by decide) ?_
    refine r_istore (y := m12_bringsMany) (L' := [some (.ref 668), some (.int a0), some (.int a1), some (.int a2), some (.int 0), none, none, none, none, none]) dX12_bringsMany_22 (Nat.le_of_ble_eq_true rfl) rfl ?_
    refine r_iload (y := m12_bringsMany) dX12_bringsMany_24 rfl ?_
    refine r_aload_n (y := m12_bringsMany) dX12_bringsMany_26 rfl rfl ?_
    refine g_X12_7 (y := m12_bringsMany) rfl dX12_bringsMany_27 hm ?_
    refine r_iload_n (y := m12_bringsMany) dX12_bringsMany_30 rfl rfl ?_
    obtain ⟨hb3, h⟩ := h
    refine r_iald (y := m12_bringsMany) (n := 8) dX12_bringsMany_31 (sa_669 hm) hb3 ?_
    refine r_iconst (y := m12_bringsMany) (v := 1) dX12_bringsMany_32 (by decide) ?_
    refine r_icmp_le (y := m12_bringsMany) (tgt := 48) dX12_bringsMany_33 (by decide) (fun hc4 => ?_) (fun hc4 => ?_)
    · have h := h.1 hc4
      refine r_iconst (y := m12_bringsMany) (v := 0) dX12_bringsMany_48 (by decide) ?_
      refine r_ior (y := m12_bringsMany) dX12_bringsMany_49 ?_
      refine r_istore (y := m12_bringsMany) (L' := [some (.ref 668), some (.int a0), some (.int a1), some (.int a2), some (.int (0 ||| 0)), none, none, none, none, none]) dX12_bringsMany_50 (Nat.le_of_ble_eq_true rfl) rfl ?_
      refine r_iload_n (y := m12_bringsMany) dX12_bringsMany_52 rfl rfl ?_
      refine r_iconst (y := m12_bringsMany) (v := 2) dX12_bringsMany_53 (by decide) ?_
      refine r_callS (y := m12_bringsMany) (As := [(.int a1), (.int 2)]) dX12_bringsMany_54 rfl k12_patternAt lm_X12_194 rfl ⟨by decide, by decide⟩ (Nat.le_of_ble_eq_true rfl) (C.mono h ?_)
      rintro _ m5 ⟨x7, rfl, hm6, h⟩
      refine ⟨_, rfl, ?_⟩
      refine r_istore (y := m12_bringsMany) (L' := [some (.ref 668), some (.int a0), some (.int a1), some (.int a2), some (.int (0 ||| 0)), some (.int x7), none, none, none, none]) dX12_bringsMany_57 (Nat.le_of_ble_eq_true rfl) rfl ?_
      refine r_aload_n (y := m12_bringsMany) dX12_bringsMany_59 rfl rfl ?_
      refine r_iload (y := m12_bringsMany) dX12_bringsMany_60 rfl ?_
      refine r_callV (y := m12_bringsMany) (As := [(.int x7)]) (b := 668) (ci := 12) dX12_bringsMany_62 rfl k12_endOf lm_X12_201 rfl ⟨by decide, by decide⟩ (so_668 hm6) (by decide) rfl (Nat.le_of_ble_eq_true rfl) (C.mono h ?_)
      rintro _ m8 ⟨x10, rfl, hm9, h⟩
      refine ⟨_, rfl, ?_⟩
      refine r_istore (y := m12_bringsMany) (L' := [some (.ref 668), some (.int a0), some (.int a1), some (.int a2), some (.int (0 ||| 0)), some (.int x7), some (.int x10), none, none, none]) dX12_bringsMany_65 (Nat.le_of_ble_eq_true rfl) rfl ?_
      refine r_iload (y := m12_bringsMany) dX12_bringsMany_67 rfl ?_
      refine r_istore (y := m12_bringsMany) (L' := [some (.ref 668), some (.int a0), some (.int a1), some (.int a2), some (.int (0 ||| 0)), some (.int x7), some (.int x10), some (.int x7), none, none]) dX12_bringsMany_69 (Nat.le_of_ble_eq_true rfl) rfl ?_
      refine r_iconst (y := m12_bringsMany) (v := 0) dX12_bringsMany_71 (by decide) ?_
      refine r_istore (y := m12_bringsMany) (L' := [some (.ref 668), some (.int a0), some (.int a1), some (.int a2), some (.int (0 ||| 0)), some (.int x7), some (.int x10), some (.int x7), some (.int 0), none]) dX12_bringsMany_72 (Nat.le_of_ble_eq_true rfl) rfl ?_
      exact h
    · have h := h.2 hc4
      refine r_aload_n (y := m12_bringsMany) dX12_bringsMany_36 rfl rfl ?_
      refine r_iload_n (y := m12_bringsMany) dX12_bringsMany_37 rfl rfl ?_
      refine r_iconst (y := m12_bringsMany) (v := 1) dX12_bringsMany_38 (by decide) ?_
      refine r_callS (y := m12_bringsMany) (As := [(.int a1), (.int 1)]) dX12_bringsMany_39 rfl k12_patternAt lm_X12_194 rfl ⟨by decide, by decide⟩ (Nat.le_of_ble_eq_true rfl) (C.mono h ?_)
      rintro _ m11 ⟨x13, rfl, hm12, h⟩
      refine ⟨_, rfl, ?_⟩
      refine r_callV (y := m12_bringsMany) (As := [(.int x13)]) (b := 668) (ci := 12) dX12_bringsMany_42 rfl k12_namesAt lm_X12_208 rfl ⟨by decide, by decide⟩ (so_668 hm12) (by decide) rfl (Nat.le_of_ble_eq_true rfl) (C.mono h ?_)
      rintro _ m14 ⟨x16, rfl, hm15, h⟩
      refine ⟨_, rfl, ?_⟩
      refine r_goto (y := m12_bringsMany) (tgt := 49) dX12_bringsMany_45 (by decide) ?_
      refine r_ior (y := m12_bringsMany) dX12_bringsMany_49 ?_
      refine r_istore (y := m12_bringsMany) (L' := [some (.ref 668), some (.int a0), some (.int a1), some (.int a2), some (.int (0 ||| x16)), none, none, none, none, none]) dX12_bringsMany_50 (Nat.le_of_ble_eq_true rfl) rfl ?_
      refine r_iload_n (y := m12_bringsMany) dX12_bringsMany_52 rfl rfl ?_
      refine r_iconst (y := m12_bringsMany) (v := 2) dX12_bringsMany_53 (by decide) ?_
      refine r_callS (y := m12_bringsMany) (As := [(.int a1), (.int 2)]) dX12_bringsMany_54 rfl k12_patternAt lm_X12_194 rfl ⟨by decide, by decide⟩ (Nat.le_of_ble_eq_true rfl) (C.mono h ?_)
      rintro _ m17 ⟨x19, rfl, hm18, h⟩
      refine ⟨_, rfl, ?_⟩
      refine r_istore (y := m12_bringsMany) (L' := [some (.ref 668), some (.int a0), some (.int a1), some (.int a2), some (.int (0 ||| x16)), some (.int x19), none, none, none, none]) dX12_bringsMany_57 (Nat.le_of_ble_eq_true rfl) rfl ?_
      refine r_aload_n (y := m12_bringsMany) dX12_bringsMany_59 rfl rfl ?_
      refine r_iload (y := m12_bringsMany) dX12_bringsMany_60 rfl ?_
      refine r_callV (y := m12_bringsMany) (As := [(.int x19)]) (b := 668) (ci := 12) dX12_bringsMany_62 rfl k12_endOf lm_X12_201 rfl ⟨by decide, by decide⟩ (so_668 hm18) (by decide) rfl (Nat.le_of_ble_eq_true rfl) (C.mono h ?_)
      rintro _ m20 ⟨x22, rfl, hm21, h⟩
      refine ⟨_, rfl, ?_⟩
      refine r_istore (y := m12_bringsMany) (L' := [some (.ref 668), some (.int a0), some (.int a1), some (.int a2), some (.int (0 ||| x16)), some (.int x19), some (.int x22), none, none, none]) dX12_bringsMany_65 (Nat.le_of_ble_eq_true rfl) rfl ?_
      refine r_iload (y := m12_bringsMany) dX12_bringsMany_67 rfl ?_
      refine r_istore (y := m12_bringsMany) (L' := [some (.ref 668), some (.int a0), some (.int a1), some (.int a2), some (.int (0 ||| x16)), some (.int x19), some (.int x22), some (.int x19), none, none]) dX12_bringsMany_69 (Nat.le_of_ble_eq_true rfl) rfl ?_
      refine r_iconst (y := m12_bringsMany) (v := 0) dX12_bringsMany_71 (by decide) ?_
      refine r_istore (y := m12_bringsMany) (L' := [some (.ref 668), some (.int a0), some (.int a1), some (.int a2), some (.int (0 ||| x16)), some (.int x19), some (.int x22), some (.int x19), some (.int 0), none]) dX12_bringsMany_72 (Nat.le_of_ble_eq_true rfl) rfl ?_
      exact h
  · have h := h.2 hc2
    refine r_aload_n (y := m12_bringsMany) dX12_bringsMany_9 rfl rfl ?_
    refine r_iload_n (y := m12_bringsMany) dX12_bringsMany_10 rfl rfl ?_
    refine r_iconst (y := m12_bringsMany) (v := 0) dX12_bringsMany_11 (by decide) ?_
    refine r_callS (y := m12_bringsMany) (As := [(.int a1), (.int 0)]) dX12_bringsMany_12 rfl k12_patternAt lm_X12_194 rfl ⟨by decide, by decide⟩ (Nat.le_of_ble_eq_true rfl) (C.mono h ?_)
    rintro _ m23 ⟨x25, rfl, hm24, h⟩
    refine ⟨_, rfl, ?_⟩
    refine r_callV (y := m12_bringsMany) (As := [(.int x25)]) (b := 668) (ci := 12) dX12_bringsMany_15 rfl k12_namesAt lm_X12_208 rfl ⟨by decide, by decide⟩ (so_668 hm24) (by decide) rfl (Nat.le_of_ble_eq_true rfl) (C.mono h ?_)
    rintro _ m26 ⟨x28, rfl, hm27, h⟩
    refine ⟨_, rfl, ?_⟩
    refine r_goto (y := m12_bringsMany) (tgt := 22) dX12_bringsMany_18 (by decide) ?_
    refine r_istore (y := m12_bringsMany) (L' := [some (.ref 668), some (.int a0), some (.int a1), some (.int a2), some (.int x28), none, none, none, none, none]) dX12_bringsMany_22 (Nat.le_of_ble_eq_true rfl) rfl ?_
    refine r_iload (y := m12_bringsMany) dX12_bringsMany_24 rfl ?_
    refine r_aload_n (y := m12_bringsMany) dX12_bringsMany_26 rfl rfl ?_
    refine g_X12_7 (y := m12_bringsMany) rfl dX12_bringsMany_27 hm27 ?_
    refine r_iload_n (y := m12_bringsMany) dX12_bringsMany_30 rfl rfl ?_
    obtain ⟨hb29, h⟩ := h
    refine r_iald (y := m12_bringsMany) (n := 8) dX12_bringsMany_31 (sa_669 hm27) hb29 ?_
    refine r_iconst (y := m12_bringsMany) (v := 1) dX12_bringsMany_32 (by decide) ?_
    refine r_icmp_le (y := m12_bringsMany) (tgt := 48) dX12_bringsMany_33 (by decide) (fun hc30 => ?_) (fun hc30 => ?_)
    · have h := h.1 hc30
      refine r_iconst (y := m12_bringsMany) (v := 0) dX12_bringsMany_48 (by decide) ?_
      refine r_ior (y := m12_bringsMany) dX12_bringsMany_49 ?_
      refine r_istore (y := m12_bringsMany) (L' := [some (.ref 668), some (.int a0), some (.int a1), some (.int a2), some (.int (x28 ||| 0)), none, none, none, none, none]) dX12_bringsMany_50 (Nat.le_of_ble_eq_true rfl) rfl ?_
      refine r_iload_n (y := m12_bringsMany) dX12_bringsMany_52 rfl rfl ?_
      refine r_iconst (y := m12_bringsMany) (v := 2) dX12_bringsMany_53 (by decide) ?_
      refine r_callS (y := m12_bringsMany) (As := [(.int a1), (.int 2)]) dX12_bringsMany_54 rfl k12_patternAt lm_X12_194 rfl ⟨by decide, by decide⟩ (Nat.le_of_ble_eq_true rfl) (C.mono h ?_)
      rintro _ m31 ⟨x33, rfl, hm32, h⟩
      refine ⟨_, rfl, ?_⟩
      refine r_istore (y := m12_bringsMany) (L' := [some (.ref 668), some (.int a0), some (.int a1), some (.int a2), some (.int (x28 ||| 0)), some (.int x33), none, none, none, none]) dX12_bringsMany_57 (Nat.le_of_ble_eq_true rfl) rfl ?_
      refine r_aload_n (y := m12_bringsMany) dX12_bringsMany_59 rfl rfl ?_
      refine r_iload (y := m12_bringsMany) dX12_bringsMany_60 rfl ?_
      refine r_callV (y := m12_bringsMany) (As := [(.int x33)]) (b := 668) (ci := 12) dX12_bringsMany_62 rfl k12_endOf lm_X12_201 rfl ⟨by decide, by decide⟩ (so_668 hm32) (by decide) rfl (Nat.le_of_ble_eq_true rfl) (C.mono h ?_)
      rintro _ m34 ⟨x36, rfl, hm35, h⟩
      refine ⟨_, rfl, ?_⟩
      refine r_istore (y := m12_bringsMany) (L' := [some (.ref 668), some (.int a0), some (.int a1), some (.int a2), some (.int (x28 ||| 0)), some (.int x33), some (.int x36), none, none, none]) dX12_bringsMany_65 (Nat.le_of_ble_eq_true rfl) rfl ?_
      refine r_iload (y := m12_bringsMany) dX12_bringsMany_67 rfl ?_
      refine r_istore (y := m12_bringsMany) (L' := [some (.ref 668), some (.int a0), some (.int a1), some (.int a2), some (.int (x28 ||| 0)), some (.int x33), some (.int x36), some (.int x33), none, none]) dX12_bringsMany_69 (Nat.le_of_ble_eq_true rfl) rfl ?_
      refine r_iconst (y := m12_bringsMany) (v := 0) dX12_bringsMany_71 (by decide) ?_
      refine r_istore (y := m12_bringsMany) (L' := [some (.ref 668), some (.int a0), some (.int a1), some (.int a2), some (.int (x28 ||| 0)), some (.int x33), some (.int x36), some (.int x33), some (.int 0), none]) dX12_bringsMany_72 (Nat.le_of_ble_eq_true rfl) rfl ?_
      exact h
    · have h := h.2 hc30
      refine r_aload_n (y := m12_bringsMany) dX12_bringsMany_36 rfl rfl ?_
      refine r_iload_n (y := m12_bringsMany) dX12_bringsMany_37 rfl rfl ?_
      refine r_iconst (y := m12_bringsMany) (v := 1) dX12_bringsMany_38 (by decide) ?_
      refine r_callS (y := m12_bringsMany) (As := [(.int a1), (.int 1)]) dX12_bringsMany_39 rfl k12_patternAt lm_X12_194 rfl ⟨by decide, by decide⟩ (Nat.le_of_ble_eq_true rfl) (C.mono h ?_)
      rintro _ m37 ⟨x39, rfl, hm38, h⟩
      refine ⟨_, rfl, ?_⟩
      refine r_callV (y := m12_bringsMany) (As := [(.int x39)]) (b := 668) (ci := 12) dX12_bringsMany_42 rfl k12_namesAt lm_X12_208 rfl ⟨by decide, by decide⟩ (so_668 hm38) (by decide) rfl (Nat.le_of_ble_eq_true rfl) (C.mono h ?_)
      rintro _ m40 ⟨x42, rfl, hm41, h⟩
      refine ⟨_, rfl, ?_⟩
      refine r_goto (y := m12_bringsMany) (tgt := 49) dX12_bringsMany_45 (by decide) ?_
      refine r_ior (y := m12_bringsMany) dX12_bringsMany_49 ?_
      refine r_istore (y := m12_bringsMany) (L' := [some (.ref 668), some (.int a0), some (.int a1), some (.int a2), some (.int (x28 ||| x42)), none, none, none, none, none]) dX12_bringsMany_50 (Nat.le_of_ble_eq_true rfl) rfl ?_
      refine r_iload_n (y := m12_bringsMany) dX12_bringsMany_52 rfl rfl ?_
      refine r_iconst (y := m12_bringsMany) (v := 2) dX12_bringsMany_53 (by decide) ?_
      refine r_callS (y := m12_bringsMany) (As := [(.int a1), (.int 2)]) dX12_bringsMany_54 rfl k12_patternAt lm_X12_194 rfl ⟨by decide, by decide⟩ (Nat.le_of_ble_eq_true rfl) (C.mono h ?_)
      rintro _ m43 ⟨x45, rfl, hm44, h⟩
      refine ⟨_, rfl, ?_⟩
      refine r_istore (y := m12_bringsMany) (L' := [some (.ref 668), some (.int a0), some (.int a1), some (.int a2), some (.int (x28 ||| x42)), some (.int x45), none, none, none, none]) dX12_bringsMany_57 (Nat.le_of_ble_eq_true rfl) rfl ?_
      refine r_aload_n (y := m12_bringsMany) dX12_bringsMany_59 rfl rfl ?_
      refine r_iload (y := m12_bringsMany) dX12_bringsMany_60 rfl ?_
      refine r_callV (y := m12_bringsMany) (As := [(.int x45)]) (b := 668) (ci := 12) dX12_bringsMany_62 rfl k12_endOf lm_X12_201 rfl ⟨by decide, by decide⟩ (so_668 hm44) (by decide) rfl (Nat.le_of_ble_eq_true rfl) (C.mono h ?_)
      rintro _ m46 ⟨x48, rfl, hm47, h⟩
      refine ⟨_, rfl, ?_⟩
      refine r_istore (y := m12_bringsMany) (L' := [some (.ref 668), some (.int a0), some (.int a1), some (.int a2), some (.int (x28 ||| x42)), some (.int x45), some (.int x48), none, none, none]) dX12_bringsMany_65 (Nat.le_of_ble_eq_true rfl) rfl ?_
      refine r_iload (y := m12_bringsMany) dX12_bringsMany_67 rfl ?_
      refine r_istore (y := m12_bringsMany) (L' := [some (.ref 668), some (.int a0), some (.int a1), some (.int a2), some (.int (x28 ||| x42)), some (.int x45), some (.int x48), some (.int x45), none, none]) dX12_bringsMany_69 (Nat.le_of_ble_eq_true rfl) rfl ?_
      refine r_iconst (y := m12_bringsMany) (v := 0) dX12_bringsMany_71 (by decide) ?_
      refine r_istore (y := m12_bringsMany) (L' := [some (.ref 668), some (.int a0), some (.int a1), some (.int a2), some (.int (x28 ||| x42)), some (.int x45), some (.int x48), some (.int x45), some (.int 0), none]) dX12_bringsMany_72 (Nat.le_of_ble_eq_true rfl) rfl ?_
      exact h
set_option maxHeartbeats 4000000 in
set_option maxRecDepth 100000 in
theorem w12_bringsMany_74 {m : Mm} {K : Option Value ⊕ String → Mm → Prop} (hm : St m) {v1 : Int32} {v2 : Int32} {v3 : Int32} {v4 : Int32} {v5 : Int32} {v6 : Int32} {v7 : Int32} {v8 : Int32}  (h : ((v6 ≤ v7 → (narrow .boolean (.int v8) = .int v8 ∧ K (.inl (some (.int v8))) m)) ∧ (¬ v6 ≤ v7 → vp_in v7 876 ∧ ((¬ v8 = 0 → V m12_bringsMany 144 [some (.ref 668), some (.int v1), some (.int v2), some (.int v3), some (.int v4), some (.int v5), some (.int v6), some (.int v7), some (.int v8), some (.int (mI m 676 (Int32.toNatClampNeg v7)))] [] m K) ∧ (v8 = 0 → (((mI m 676 (Int32.toNatClampNeg v7)) = 30 → V m12_bringsMany 144 [some (.ref 668), some (.int v1), some (.int v2), some (.int v3), some (.int v4), some (.int v5), some (.int v6), some (.int v7), some (.int v8), some (.int (mI m 676 (Int32.toNatClampNeg v7)))] [] m K) ∧ (¬ (mI m 676 (Int32.toNatClampNeg v7)) = 30 → ((10 ≤ (mI m 676 (Int32.toNatClampNeg v7)) → V m12_bringsMany 119 [some (.ref 668), some (.int v1), some (.int v2), some (.int v3), some (.int v4), some (.int v5), some (.int v6), some (.int v7), some (.int v8), some (.int (mI m 676 (Int32.toNatClampNeg v7)))] [] m K) ∧ (¬ 10 ≤ (mI m 676 (Int32.toNatClampNeg v7)) → ((((v4 >>> ((mI m 676 (Int32.toNatClampNeg v7)) &&& 31)) &&& 1) = 0 → V m12_bringsMany 144 [some (.ref 668), some (.int v1), some (.int v2), some (.int v3), some (.int v4), some (.int v5), some (.int v6), some (.int v7), some (.int v8), some (.int (mI m 676 (Int32.toNatClampNeg v7)))] [] m K) ∧ (¬ ((v4 >>> ((mI m 676 (Int32.toNatClampNeg v7)) &&& 31)) &&& 1) = 0 → V m12_bringsMany 119 [some (.ref 668), some (.int v1), some (.int v2), some (.int v3), some (.int v4), some (.int v5), some (.int v6), some (.int v7), some (.int v8), some (.int (mI m 676 (Int32.toNatClampNeg v7)))] [] m K))))))))))) : V m12_bringsMany 74 [some (.ref 668), some (.int v1), some (.int v2), some (.int v3), some (.int v4), some (.int v5), some (.int v6), some (.int v7), some (.int v8), none] [] m K := by
  refine r_iload (y := m12_bringsMany) dX12_bringsMany_74 rfl ?_
  refine r_iload (y := m12_bringsMany) dX12_bringsMany_76 rfl ?_
  refine r_icmp_ge (y := m12_bringsMany) (tgt := 176) dX12_bringsMany_78 (by decide) (fun hc1 => ?_) (fun hc1 => ?_)
  · have h := h.1 hc1
    refine r_iload (y := m12_bringsMany) dX12_bringsMany_176 rfl ?_
    exact r_iret (y := m12_bringsMany) (ty := .boolean) dX12_bringsMany_178 rfl h.1 h.2
  · have h := h.2 hc1
    refine r_aload_n (y := m12_bringsMany) dX12_bringsMany_81 rfl rfl ?_
    refine g_X12_32 (y := m12_bringsMany) rfl dX12_bringsMany_82 hm ?_
    refine r_iload (y := m12_bringsMany) dX12_bringsMany_85 rfl ?_
    obtain ⟨hb2, h⟩ := h
    refine r_iald (y := m12_bringsMany) (n := 876) dX12_bringsMany_87 (sa_676 hm) hb2 ?_
    refine r_istore (y := m12_bringsMany) (L' := [some (.ref 668), some (.int v1), some (.int v2), some (.int v3), some (.int v4), some (.int v5), some (.int v6), some (.int v7), some (.int v8), some (.int (mI m 676 (Int32.toNatClampNeg v7)))]) dX12_bringsMany_88 (Nat.le_of_ble_eq_true rfl) rfl ?_
    refine r_iload (y := m12_bringsMany) dX12_bringsMany_90 rfl ?_
    refine r_if_ne (y := m12_bringsMany) (tgt := 144) dX12_bringsMany_92 (by decide) (fun hc3 => ?_) (fun hc3 => ?_)
    · have h := h.1 hc3
      exact h
    · have h := h.2 hc3
      refine r_iload (y := m12_bringsMany) dX12_bringsMany_95 rfl ?_
      refine r_bipush (y := m12_bringsMany) (v := 30) dX12_bringsMany_97 (by decide) ?_
      refine r_icmp_eq (y := m12_bringsMany) (tgt := 144) dX12_bringsMany_99 (by decide) (fun hc4 => ?_) (fun hc4 => ?_)
      · have h := h.1 hc4
        exact h
      · have h := h.2 hc4
        refine r_iload (y := m12_bringsMany) dX12_bringsMany_102 rfl ?_
        refine r_bipush (y := m12_bringsMany) (v := 10) dX12_bringsMany_104 (by decide) ?_
        refine r_icmp_ge (y := m12_bringsMany) (tgt := 119) dX12_bringsMany_106 (by decide) (fun hc5 => ?_) (fun hc5 => ?_)
        · have h := h.1 hc5
          exact h
        · have h := h.2 hc5
          refine r_iload (y := m12_bringsMany) dX12_bringsMany_109 rfl ?_
          refine r_iload (y := m12_bringsMany) dX12_bringsMany_111 rfl ?_
          refine r_ishr (y := m12_bringsMany) dX12_bringsMany_113 ?_
          refine r_iconst (y := m12_bringsMany) (v := 1) dX12_bringsMany_114 (by decide) ?_
          refine r_iand (y := m12_bringsMany) dX12_bringsMany_115 ?_
          refine r_if_eq (y := m12_bringsMany) (tgt := 144) dX12_bringsMany_116 (by decide) (fun hc6 => ?_) (fun hc6 => ?_)
          · have h := h.1 hc6
            exact h
          · have h := h.2 hc6
            exact h
set_option maxHeartbeats 4000000 in
set_option maxRecDepth 100000 in
theorem w12_bringsMany_144 {m : Mm} {K : Option Value ⊕ String → Mm → Prop} (hm : St m) {v1 : Int32} {v2 : Int32} {v3 : Int32} {v4 : Int32} {v5 : Int32} {v6 : Int32} {v7 : Int32} {v8 : Int32} {v9 : Int32}  (h : ((¬ v9 = 33 → V m12_bringsMany 74 [some (.ref 668), some (.int v1), some (.int v2), some (.int v3), some (.int v4), some (.int v5), some (.int v6), some (.int (v7 + 1)), some (.int 1), some (.int v9)] [] m K) ∧ (v9 = 33 → C m12_endOf [(.ref 668), (.int v7)] m (fun o m2 => ∃ x4 : Int32, o = .inl (some (.int x4)) ∧ St m2 ∧ V m12_bringsMany 74 [some (.ref 668), some (.int v1), some (.int v2), some (.int v3), some (.int v4), some (.int v5), some (.int v6), some (.int x4), some (.int 1), some (.int v9)] [] m2 K)))) : V m12_bringsMany 144 [some (.ref 668), some (.int v1), some (.int v2), some (.int v3), some (.int v4), some (.int v5), some (.int v6), some (.int v7), some (.int v8), some (.int v9)] [] m K := by
  refine r_iconst (y := m12_bringsMany) (v := 1) dX12_bringsMany_144 (by decide) ?_
  refine r_goto (y := m12_bringsMany) (tgt := 149) dX12_bringsMany_145 (by decide) ?_
  refine r_istore (y := m12_bringsMany) (L' := [some (.ref 668), some (.int v1), some (.int v2), some (.int v3), some (.int v4), some (.int v5), some (.int v6), some (.int v7), some (.int 1), some (.int v9)]) dX12_bringsMany_149 (Nat.le_of_ble_eq_true rfl) rfl ?_
  refine r_iload (y := m12_bringsMany) dX12_bringsMany_151 rfl ?_
  refine r_bipush (y := m12_bringsMany) (v := 33) dX12_bringsMany_153 (by decide) ?_
  refine r_icmp_ne (y := m12_bringsMany) (tgt := 167) dX12_bringsMany_155 (by decide) (fun hc1 => ?_) (fun hc1 => ?_)
  · have h := h.1 hc1
    refine r_iload (y := m12_bringsMany) dX12_bringsMany_167 rfl ?_
    refine r_iconst (y := m12_bringsMany) (v := 1) dX12_bringsMany_169 (by decide) ?_
    refine r_iadd (y := m12_bringsMany) dX12_bringsMany_170 ?_
    refine r_istore (y := m12_bringsMany) (L' := [some (.ref 668), some (.int v1), some (.int v2), some (.int v3), some (.int v4), some (.int v5), some (.int v6), some (.int (v7 + 1)), some (.int 1), some (.int v9)]) dX12_bringsMany_171 (Nat.le_of_ble_eq_true rfl) rfl ?_
    refine r_goto (y := m12_bringsMany) (tgt := 74) dX12_bringsMany_173 (by decide) ?_
    exact h
  · have h := h.2 hc1
    refine r_aload_n (y := m12_bringsMany) dX12_bringsMany_158 rfl rfl ?_
    refine r_iload (y := m12_bringsMany) dX12_bringsMany_159 rfl ?_
    refine r_callV (y := m12_bringsMany) (As := [(.int v7)]) (b := 668) (ci := 12) dX12_bringsMany_161 rfl k12_endOf lm_X12_201 rfl ⟨by decide, by decide⟩ (so_668 hm) (by decide) rfl (Nat.le_of_ble_eq_true rfl) (C.mono h ?_)
    rintro _ m2 ⟨x4, rfl, hm3, h⟩
    refine ⟨_, rfl, ?_⟩
    refine r_goto (y := m12_bringsMany) (tgt := 171) dX12_bringsMany_164 (by decide) ?_
    refine r_istore (y := m12_bringsMany) (L' := [some (.ref 668), some (.int v1), some (.int v2), some (.int v3), some (.int v4), some (.int v5), some (.int v6), some (.int x4), some (.int 1), some (.int v9)]) dX12_bringsMany_171 (Nat.le_of_ble_eq_true rfl) rfl ?_
    refine r_goto (y := m12_bringsMany) (tgt := 74) dX12_bringsMany_173 (by decide) ?_
    exact h
set_option maxHeartbeats 4000000 in
set_option maxRecDepth 100000 in
theorem w12_bringsMany_119 {m : Mm} {K : Option Value ⊕ String → Mm → Prop} (hm : St m) {v1 : Int32} {v2 : Int32} {v3 : Int32} {v4 : Int32} {v5 : Int32} {v6 : Int32} {v7 : Int32} {v8 : Int32} {v9 : Int32}  (h : C m12_in [(.int v9), (.int 20), (.int 29)] m (fun o m1 => ∃ x3 : Int32, o = .inl (some (.int x3)) ∧ St m1 ∧ ((x3 = 0 → V m12_bringsMany 148 [some (.ref 668), some (.int v1), some (.int v2), some (.int v3), some (.int v4), some (.int v5), some (.int v6), some (.int v7), some (.int v8), some (.int v9)] [] m1 K) ∧ (¬ x3 = 0 → ((¬ ((v3 >>> ((v9 - 20) &&& 31)) &&& 1) = 1 → V m12_bringsMany 148 [some (.ref 668), some (.int v1), some (.int v2), some (.int v3), some (.int v4), some (.int v5), some (.int v6), some (.int v7), some (.int v8), some (.int v9)] [] m1 K) ∧ (((v3 >>> ((v9 - 20) &&& 31)) &&& 1) = 1 → V m12_bringsMany 144 [some (.ref 668), some (.int v1), some (.int v2), some (.int v3), some (.int v4), some (.int v5), some (.int v6), some (.int v7), some (.int v8), some (.int v9)] [] m1 K)))))) : V m12_bringsMany 119 [some (.ref 668), some (.int v1), some (.int v2), some (.int v3), some (.int v4), some (.int v5), some (.int v6), some (.int v7), some (.int v8), some (.int v9)] [] m K := by
  refine r_iload (y := m12_bringsMany) dX12_bringsMany_119 rfl ?_
  refine r_bipush (y := m12_bringsMany) (v := 20) dX12_bringsMany_121 (by decide) ?_
  refine r_bipush (y := m12_bringsMany) (v := 29) dX12_bringsMany_123 (by decide) ?_
  refine r_callS (y := m12_bringsMany) (As := [(.int v9), (.int 20), (.int 29)]) dX12_bringsMany_125 rfl k12_in lm_X12_154 rfl ⟨by decide, by decide⟩ (Nat.le_of_ble_eq_true rfl) (C.mono h ?_)
  rintro _ m1 ⟨x3, rfl, hm2, h⟩
  refine ⟨_, rfl, ?_⟩
  refine r_if_eq (y := m12_bringsMany) (tgt := 148) dX12_bringsMany_128 (by decide) (fun hc4 => ?_) (fun hc4 => ?_)
  · have h := h.1 hc4
    exact h
  · have h := h.2 hc4
    refine r_iload_n (y := m12_bringsMany) dX12_bringsMany_131 rfl rfl ?_
    refine r_iload (y := m12_bringsMany) dX12_bringsMany_132 rfl ?_
    refine r_bipush (y := m12_bringsMany) (v := 20) dX12_bringsMany_134 (by decide) ?_
    refine r_isub (y := m12_bringsMany) dX12_bringsMany_136 ?_
    refine r_ishr (y := m12_bringsMany) dX12_bringsMany_137 ?_
    refine r_iconst (y := m12_bringsMany) (v := 1) dX12_bringsMany_138 (by decide) ?_
    refine r_iand (y := m12_bringsMany) dX12_bringsMany_139 ?_
    refine r_iconst (y := m12_bringsMany) (v := 1) dX12_bringsMany_140 (by decide) ?_
    refine r_icmp_ne (y := m12_bringsMany) (tgt := 148) dX12_bringsMany_141 (by decide) (fun hc5 => ?_) (fun hc5 => ?_)
    · have h := h.1 hc5
      exact h
    · have h := h.2 hc5
      exact h
set_option maxHeartbeats 4000000 in
set_option maxRecDepth 100000 in
theorem w12_bringsMany_148 {m : Mm} {K : Option Value ⊕ String → Mm → Prop} (hm : St m) {v1 : Int32} {v2 : Int32} {v3 : Int32} {v4 : Int32} {v5 : Int32} {v6 : Int32} {v7 : Int32} {v8 : Int32} {v9 : Int32}  (h : ((¬ v9 = 33 → V m12_bringsMany 74 [some (.ref 668), some (.int v1), some (.int v2), some (.int v3), some (.int v4), some (.int v5), some (.int v6), some (.int (v7 + 1)), some (.int 0), some (.int v9)] [] m K) ∧ (v9 = 33 → C m12_endOf [(.ref 668), (.int v7)] m (fun o m2 => ∃ x4 : Int32, o = .inl (some (.int x4)) ∧ St m2 ∧ V m12_bringsMany 74 [some (.ref 668), some (.int v1), some (.int v2), some (.int v3), some (.int v4), some (.int v5), some (.int v6), some (.int x4), some (.int 0), some (.int v9)] [] m2 K)))) : V m12_bringsMany 148 [some (.ref 668), some (.int v1), some (.int v2), some (.int v3), some (.int v4), some (.int v5), some (.int v6), some (.int v7), some (.int v8), some (.int v9)] [] m K := by
  refine r_iconst (y := m12_bringsMany) (v := 0) dX12_bringsMany_148 (by decide) ?_
  refine r_istore (y := m12_bringsMany) (L' := [some (.ref 668), some (.int v1), some (.int v2), some (.int v3), some (.int v4), some (.int v5), some (.int v6), some (.int v7), some (.int 0), some (.int v9)]) dX12_bringsMany_149 (Nat.le_of_ble_eq_true rfl) rfl ?_
  refine r_iload (y := m12_bringsMany) dX12_bringsMany_151 rfl ?_
  refine r_bipush (y := m12_bringsMany) (v := 33) dX12_bringsMany_153 (by decide) ?_
  refine r_icmp_ne (y := m12_bringsMany) (tgt := 167) dX12_bringsMany_155 (by decide) (fun hc1 => ?_) (fun hc1 => ?_)
  · have h := h.1 hc1
    refine r_iload (y := m12_bringsMany) dX12_bringsMany_167 rfl ?_
    refine r_iconst (y := m12_bringsMany) (v := 1) dX12_bringsMany_169 (by decide) ?_
    refine r_iadd (y := m12_bringsMany) dX12_bringsMany_170 ?_
    refine r_istore (y := m12_bringsMany) (L' := [some (.ref 668), some (.int v1), some (.int v2), some (.int v3), some (.int v4), some (.int v5), some (.int v6), some (.int (v7 + 1)), some (.int 0), some (.int v9)]) dX12_bringsMany_171 (Nat.le_of_ble_eq_true rfl) rfl ?_
    refine r_goto (y := m12_bringsMany) (tgt := 74) dX12_bringsMany_173 (by decide) ?_
    exact h
  · have h := h.2 hc1
    refine r_aload_n (y := m12_bringsMany) dX12_bringsMany_158 rfl rfl ?_
    refine r_iload (y := m12_bringsMany) dX12_bringsMany_159 rfl ?_
    refine r_callV (y := m12_bringsMany) (As := [(.int v7)]) (b := 668) (ci := 12) dX12_bringsMany_161 rfl k12_endOf lm_X12_201 rfl ⟨by decide, by decide⟩ (so_668 hm) (by decide) rfl (Nat.le_of_ble_eq_true rfl) (C.mono h ?_)
    rintro _ m2 ⟨x4, rfl, hm3, h⟩
    refine ⟨_, rfl, ?_⟩
    refine r_goto (y := m12_bringsMany) (tgt := 171) dX12_bringsMany_164 (by decide) ?_
    refine r_istore (y := m12_bringsMany) (L' := [some (.ref 668), some (.int v1), some (.int v2), some (.int v3), some (.int v4), some (.int v5), some (.int v6), some (.int x4), some (.int 0), some (.int v9)]) dX12_bringsMany_171 (Nat.le_of_ble_eq_true rfl) rfl ?_
    refine r_goto (y := m12_bringsMany) (tgt := 74) dX12_bringsMany_173 (by decide) ?_
    exact h
set_option maxHeartbeats 4000000 in
set_option maxRecDepth 100000 in
theorem w12_isMany {m : Mm} {K : Option Value ⊕ String → Mm → Prop} (hm : St m) {a0 : Int32} {a1 : Int32}  (h : V m12_isMany 5 [some (.ref 668), some (.int a0), some (.int a1), some (.int 0), some (.int 0), none, none] [] m K) : V m12_isMany 0 [some (.ref 668), some (.int a0), some (.int a1), none, none, none, none] [] m K := by
  refine r_iconst (y := m12_isMany) (v := 0) dX12_isMany_0 (by decide) ?_
  refine r_istore_n (y := m12_isMany) (L' := [some (.ref 668), some (.int a0), some (.int a1), some (.int 0), none, none, none]) dX12_isMany_1 rfl (Nat.le_of_ble_eq_true rfl) rfl ?_
  refine r_iconst (y := m12_isMany) (v := 0) dX12_isMany_2 (by decide) ?_
  refine r_istore (y := m12_isMany) (L' := [some (.ref 668), some (.int a0), some (.int a1), some (.int 0), some (.int 0), none, none]) dX12_isMany_3 (Nat.le_of_ble_eq_true rfl) rfl ?_
  exact h
set_option maxHeartbeats 4000000 in
set_option maxRecDepth 100000 in
theorem w12_isMany_5 {m : Mm} {K : Option Value ⊕ String → Mm → Prop} (hm : St m) {v1 : Int32} {v2 : Int32} {v3 : Int32} {v4 : Int32}  (h : vp_in v1 8 ∧ (((mI m 673 (Int32.toNatClampNeg v1)) ≤ v4 → (narrow .boolean (.int v3) = .int v3 ∧ K (.inl (some (.int v3))) m)) ∧ (¬ (mI m 673 (Int32.toNatClampNeg v1)) ≤ v4 → vp_in ((24 * v1) + v4) 192 ∧ ((¬ v3 = 0 → V m12_isMany 45 [some (.ref 668), some (.int v1), some (.int v2), some (.int v3), some (.int v4), some (.int (mI m 674 (Int32.toNatClampNeg ((24 * v1) + v4)))), none] [] m K) ∧ (v3 = 0 → C m12_bringsMany [(.ref 668), (.int v1), (.int (mI m 674 (Int32.toNatClampNeg ((24 * v1) + v4)))), (.int v2)] m (fun o m5 => ∃ x7 : Int32, o = .inl (some (.int x7)) ∧ St m5 ∧ ((x7 = 0 → V m12_isMany 54 [some (.ref 668), some (.int v1), some (.int v2), some (.int 0), some (.int v4), some (.int (mI m 674 (Int32.toNatClampNeg ((24 * v1) + v4)))), some (.int 0)] [] m5 K) ∧ (¬ x7 = 0 → V m12_isMany 45 [some (.ref 668), some (.int v1), some (.int v2), some (.int v3), some (.int v4), some (.int (mI m 674 (Int32.toNatClampNeg ((24 * v1) + v4)))), none] [] m5 K)))))))) : V m12_isMany 5 [some (.ref 668), some (.int v1), some (.int v2), some (.int v3), some (.int v4), none, none] [] m K := by
  refine r_iload (y := m12_isMany) dX12_isMany_5 rfl ?_
  refine r_aload_n (y := m12_isMany) dX12_isMany_7 rfl rfl ?_
  refine g_X12_23 (y := m12_isMany) rfl dX12_isMany_8 hm ?_
  refine r_iload_n (y := m12_isMany) dX12_isMany_11 rfl rfl ?_
  obtain ⟨hb1, h⟩ := h
  refine r_iald (y := m12_isMany) (n := 8) dX12_isMany_12 (sa_673 hm) hb1 ?_
  refine r_icmp_ge (y := m12_isMany) (tgt := 105) dX12_isMany_13 (by decide) (fun hc2 => ?_) (fun hc2 => ?_)
  · have h := h.1 hc2
    refine r_iload_n (y := m12_isMany) dX12_isMany_105 rfl rfl ?_
    exact r_iret (y := m12_isMany) (ty := .boolean) dX12_isMany_106 rfl h.1 h.2
  · have h := h.2 hc2
    refine r_aload_n (y := m12_isMany) dX12_isMany_16 rfl rfl ?_
    refine g_X12_26 (y := m12_isMany) rfl dX12_isMany_17 hm ?_
    refine r_bipush (y := m12_isMany) (v := 24) dX12_isMany_20 (by decide) ?_
    refine r_iload_n (y := m12_isMany) dX12_isMany_22 rfl rfl ?_
    refine r_imul (y := m12_isMany) dX12_isMany_23 ?_
    refine r_iload (y := m12_isMany) dX12_isMany_24 rfl ?_
    refine r_iadd (y := m12_isMany) dX12_isMany_26 ?_
    obtain ⟨hb3, h⟩ := h
    refine r_iald (y := m12_isMany) (n := 192) dX12_isMany_27 (sa_674 hm) hb3 ?_
    refine r_istore (y := m12_isMany) (L' := [some (.ref 668), some (.int v1), some (.int v2), some (.int v3), some (.int v4), some (.int (mI m 674 (Int32.toNatClampNeg ((24 * v1) + v4)))), none]) dX12_isMany_28 (Nat.le_of_ble_eq_true rfl) rfl ?_
    refine r_iload_n (y := m12_isMany) dX12_isMany_30 rfl rfl ?_
    refine r_if_ne (y := m12_isMany) (tgt := 45) dX12_isMany_31 (by decide) (fun hc4 => ?_) (fun hc4 => ?_)
    · have h := h.1 hc4
      exact h
    · have h := h.2 hc4
      refine r_aload_n (y := m12_isMany) dX12_isMany_34 rfl rfl ?_
      refine r_iload_n (y := m12_isMany) dX12_isMany_35 rfl rfl ?_
      refine r_iload (y := m12_isMany) dX12_isMany_36 rfl ?_
      refine r_iload_n (y := m12_isMany) dX12_isMany_38 rfl rfl ?_
      refine r_callV (y := m12_isMany) (As := [(.int v1), (.int (mI m 674 (Int32.toNatClampNeg ((24 * v1) + v4)))), (.int v2)]) (b := 668) (ci := 12) dX12_isMany_39 rfl k12_bringsMany lm_X12_211 rfl ⟨by decide, by decide⟩ (so_668 hm) (by decide) rfl (Nat.le_of_ble_eq_true rfl) (C.mono h ?_)
      rintro _ m5 ⟨x7, rfl, hm6, h⟩
      refine ⟨_, rfl, ?_⟩
      refine r_if_eq (y := m12_isMany) (tgt := 49) dX12_isMany_42 (by decide) (fun hc8 => ?_) (fun hc8 => ?_)
      · have h := h.1 hc8
        refine r_iconst (y := m12_isMany) (v := 0) dX12_isMany_49 (by decide) ?_
        refine r_istore_n (y := m12_isMany) (L' := [some (.ref 668), some (.int v1), some (.int v2), some (.int 0), some (.int v4), some (.int (mI m 674 (Int32.toNatClampNeg ((24 * v1) + v4)))), none]) dX12_isMany_50 rfl (Nat.le_of_ble_eq_true rfl) rfl ?_
        refine r_iconst (y := m12_isMany) (v := 0) dX12_isMany_51 (by decide) ?_
        refine r_istore (y := m12_isMany) (L' := [some (.ref 668), some (.int v1), some (.int v2), some (.int 0), some (.int v4), some (.int (mI m 674 (Int32.toNatClampNeg ((24 * v1) + v4)))), some (.int 0)]) dX12_isMany_52 (Nat.le_of_ble_eq_true rfl) rfl ?_
        exact h
      · have h := h.2 hc8
        exact h
set_option maxHeartbeats 4000000 in
set_option maxRecDepth 100000 in
theorem w12_isMany_45 {m : Mm} {K : Option Value ⊕ String → Mm → Prop} (hm : St m) {v1 : Int32} {v2 : Int32} {v3 : Int32} {v4 : Int32} {v5 : Int32}  (h : V m12_isMany 54 [some (.ref 668), some (.int v1), some (.int v2), some (.int 1), some (.int v4), some (.int v5), some (.int 0)] [] m K) : V m12_isMany 45 [some (.ref 668), some (.int v1), some (.int v2), some (.int v3), some (.int v4), some (.int v5), none] [] m K := by
  refine r_iconst (y := m12_isMany) (v := 1) dX12_isMany_45 (by decide) ?_
  refine r_goto (y := m12_isMany) (tgt := 50) dX12_isMany_46 (by decide) ?_
  refine r_istore_n (y := m12_isMany) (L' := [some (.ref 668), some (.int v1), some (.int v2), some (.int 1), some (.int v4), some (.int v5), none]) dX12_isMany_50 rfl (Nat.le_of_ble_eq_true rfl) rfl ?_
  refine r_iconst (y := m12_isMany) (v := 0) dX12_isMany_51 (by decide) ?_
  refine r_istore (y := m12_isMany) (L' := [some (.ref 668), some (.int v1), some (.int v2), some (.int 1), some (.int v4), some (.int v5), some (.int 0)]) dX12_isMany_52 (Nat.le_of_ble_eq_true rfl) rfl ?_
  exact h
set_option maxHeartbeats 4000000 in
set_option maxRecDepth 100000 in
theorem w12_isMany_54 {m : Mm} {K : Option Value ⊕ String → Mm → Prop} (hm : St m) {v1 : Int32} {v2 : Int32} {v3 : Int32} {v4 : Int32} {v5 : Int32} {v6 : Int32}  (h : ((v4 ≤ v6 → V m12_isMany 5 [some (.ref 668), some (.int v1), some (.int v2), some (.int v3), some (.int (v4 + 1)), some (.int v5), some (.int v6)] [] m K) ∧ (¬ v4 ≤ v6 → ((¬ v3 = 0 → V m12_isMany 87 [some (.ref 668), some (.int v1), some (.int v2), some (.int v3), some (.int v4), some (.int v5), some (.int v6)] [] m K) ∧ (v3 = 0 → vp_in ((24 * v1) + v6) 192 ∧ C m12_doRulesMeet [(.ref 668), (.int v1), (.int v5), (.int (mI m 674 (Int32.toNatClampNeg ((24 * v1) + v6))))] m (fun o m4 => ∃ x6 : Int32, o = .inl (some (.int x6)) ∧ St m4 ∧ ((x6 = 0 → V m12_isMany 54 [some (.ref 668), some (.int v1), some (.int v2), some (.int 0), some (.int v4), some (.int v5), some (.int (v6 + 1))] [] m4 K) ∧ (¬ x6 = 0 → V m12_isMany 87 [some (.ref 668), some (.int v1), some (.int v2), some (.int v3), some (.int v4), some (.int v5), some (.int v6)] [] m4 K)))))))) : V m12_isMany 54 [some (.ref 668), some (.int v1), some (.int v2), some (.int v3), some (.int v4), some (.int v5), some (.int v6)] [] m K := by
  refine r_iload (y := m12_isMany) dX12_isMany_54 rfl ?_
  refine r_iload (y := m12_isMany) dX12_isMany_56 rfl ?_
  refine r_icmp_ge (y := m12_isMany) (tgt := 99) dX12_isMany_58 (by decide) (fun hc1 => ?_) (fun hc1 => ?_)
  · have h := h.1 hc1
    refine r_iinc (y := m12_isMany) (v := (v4 + 1)) (L' := [some (.ref 668), some (.int v1), some (.int v2), some (.int v3), some (.int (v4 + 1)), some (.int v5), some (.int v6)]) dX12_isMany_99 rfl (by rfl) rfl ?_
    refine r_goto (y := m12_isMany) (tgt := 5) dX12_isMany_102 (by decide) ?_
    exact h
  · have h := h.2 hc1
    refine r_iload_n (y := m12_isMany) dX12_isMany_61 rfl rfl ?_
    refine r_if_ne (y := m12_isMany) (tgt := 87) dX12_isMany_62 (by decide) (fun hc2 => ?_) (fun hc2 => ?_)
    · have h := h.1 hc2
      exact h
    · have h := h.2 hc2
      refine r_aload_n (y := m12_isMany) dX12_isMany_65 rfl rfl ?_
      refine r_iload_n (y := m12_isMany) dX12_isMany_66 rfl rfl ?_
      refine r_iload (y := m12_isMany) dX12_isMany_67 rfl ?_
      refine r_aload_n (y := m12_isMany) dX12_isMany_69 rfl rfl ?_
      refine g_X12_26 (y := m12_isMany) rfl dX12_isMany_70 hm ?_
      refine r_bipush (y := m12_isMany) (v := 24) dX12_isMany_73 (by decide) ?_
      refine r_iload_n (y := m12_isMany) dX12_isMany_75 rfl rfl ?_
      refine r_imul (y := m12_isMany) dX12_isMany_76 ?_
      refine r_iload (y := m12_isMany) dX12_isMany_77 rfl ?_
      refine r_iadd (y := m12_isMany) dX12_isMany_79 ?_
      obtain ⟨hb3, h⟩ := h
      refine r_iald (y := m12_isMany) (n := 192) dX12_isMany_80 (sa_674 hm) hb3 ?_
      refine r_callV (y := m12_isMany) (As := [(.int v1), (.int v5), (.int (mI m 674 (Int32.toNatClampNeg ((24 * v1) + v6))))]) (b := 668) (ci := 12) dX12_isMany_81 rfl k12_doRulesMeet lm_X12_214 rfl ⟨by decide, by decide⟩ (so_668 hm) (by decide) rfl (Nat.le_of_ble_eq_true rfl) (C.mono h ?_)
      rintro _ m4 ⟨x6, rfl, hm5, h⟩
      refine ⟨_, rfl, ?_⟩
      refine r_if_eq (y := m12_isMany) (tgt := 91) dX12_isMany_84 (by decide) (fun hc7 => ?_) (fun hc7 => ?_)
      · have h := h.1 hc7
        refine r_iconst (y := m12_isMany) (v := 0) dX12_isMany_91 (by decide) ?_
        refine r_istore_n (y := m12_isMany) (L' := [some (.ref 668), some (.int v1), some (.int v2), some (.int 0), some (.int v4), some (.int v5), some (.int v6)]) dX12_isMany_92 rfl (Nat.le_of_ble_eq_true rfl) rfl ?_
        refine r_iinc (y := m12_isMany) (v := (v6 + 1)) (L' := [some (.ref 668), some (.int v1), some (.int v2), some (.int 0), some (.int v4), some (.int v5), some (.int (v6 + 1))]) dX12_isMany_93 rfl (by rfl) rfl ?_
        refine r_goto (y := m12_isMany) (tgt := 54) dX12_isMany_96 (by decide) ?_
        exact h
      · have h := h.2 hc7
        exact h
set_option maxHeartbeats 4000000 in
set_option maxRecDepth 100000 in
theorem w12_isMany_87 {m : Mm} {K : Option Value ⊕ String → Mm → Prop} (hm : St m) {v1 : Int32} {v2 : Int32} {v3 : Int32} {v4 : Int32} {v5 : Int32} {v6 : Int32}  (h : V m12_isMany 54 [some (.ref 668), some (.int v1), some (.int v2), some (.int 1), some (.int v4), some (.int v5), some (.int (v6 + 1))] [] m K) : V m12_isMany 87 [some (.ref 668), some (.int v1), some (.int v2), some (.int v3), some (.int v4), some (.int v5), some (.int v6)] [] m K := by
  refine r_iconst (y := m12_isMany) (v := 1) dX12_isMany_87 (by decide) ?_
  refine r_goto (y := m12_isMany) (tgt := 92) dX12_isMany_88 (by decide) ?_
  refine r_istore_n (y := m12_isMany) (L' := [some (.ref 668), some (.int v1), some (.int v2), some (.int 1), some (.int v4), some (.int v5), some (.int v6)]) dX12_isMany_92 rfl (Nat.le_of_ble_eq_true rfl) rfl ?_
  refine r_iinc (y := m12_isMany) (v := (v6 + 1)) (L' := [some (.ref 668), some (.int v1), some (.int v2), some (.int 1), some (.int v4), some (.int v5), some (.int (v6 + 1))]) dX12_isMany_93 rfl (by rfl) rfl ?_
  refine r_goto (y := m12_isMany) (tgt := 54) dX12_isMany_96 (by decide) ?_
  exact h
set_option maxHeartbeats 4000000 in
set_option maxRecDepth 100000 in
theorem w12_many {m : Mm} {K : Option Value ⊕ String → Mm → Prop} (hm : St m)   (h : V m12_many 9 [some (.ref 668), some (.int 0), some (.int 0), none] [] (mSetI m 668 12 0) K) : V m12_many 0 [some (.ref 668), none, none, none] [] m K := by
  refine r_aload_n (y := m12_many) dX12_many_0 rfl rfl ?_
  refine r_iconst (y := m12_many) (v := 0) dX12_many_1 (by decide) ?_
  refine p_X12_147 (y := m12_many) rfl dX12_many_2 hm ?_
  refine r_iconst (y := m12_many) (v := 0) dX12_many_5 (by decide) ?_
  refine r_istore_n (y := m12_many) (L' := [some (.ref 668), some (.int 0), none, none]) dX12_many_6 rfl (Nat.le_of_ble_eq_true rfl) rfl ?_
  refine r_iconst (y := m12_many) (v := 0) dX12_many_7 (by decide) ?_
  refine r_istore_n (y := m12_many) (L' := [some (.ref 668), some (.int 0), some (.int 0), none]) dX12_many_8 rfl (Nat.le_of_ble_eq_true rfl) rfl ?_
  exact h
set_option maxHeartbeats 4000000 in
set_option maxRecDepth 100000 in
theorem w12_many_9 {m : Mm} {K : Option Value ⊕ String → Mm → Prop} (hm : St m) {v1 : Int32} {v2 : Int32}  (h : ((8 ≤ v2 → K (.inl (some (.int v1))) m) ∧ (¬ 8 ≤ v2 → V m12_many 17 [some (.ref 668), some (.int v1), some (.int v2), some (.int 0)] [] m K))) : V m12_many 9 [some (.ref 668), some (.int v1), some (.int v2), none] [] m K := by
  refine r_iload_n (y := m12_many) dX12_many_9 rfl rfl ?_
  refine r_bipush (y := m12_many) (v := 8) dX12_many_10 (by decide) ?_
  refine r_icmp_ge (y := m12_many) (tgt := 56) dX12_many_12 (by decide) (fun hc1 => ?_) (fun hc1 => ?_)
  · have h := h.1 hc1
    refine r_iload_n (y := m12_many) dX12_many_56 rfl rfl ?_
    exact r_iret (y := m12_many) dX12_many_57 rfl rfl h
  · have h := h.2 hc1
    refine r_iconst (y := m12_many) (v := 0) dX12_many_15 (by decide) ?_
    refine r_istore_n (y := m12_many) (L' := [some (.ref 668), some (.int v1), some (.int v2), some (.int 0)]) dX12_many_16 rfl (Nat.le_of_ble_eq_true rfl) rfl ?_
    exact h
set_option maxHeartbeats 4000000 in
set_option maxRecDepth 100000 in
theorem w12_many_17 {m : Mm} {K : Option Value ⊕ String → Mm → Prop} (hm : St m) {v1 : Int32} {v2 : Int32} {v3 : Int32}  (h : (((mI m 668 0) ≤ v3 → V m12_many 9 [some (.ref 668), some (.int v1), some (.int (v2 + 1)), some (.int v3)] [] m K) ∧ (¬ (mI m 668 0) ≤ v3 → C m12_isMany [(.ref 668), (.int v3), (.int v1)] m (fun o m2 => ∃ x4 : Int32, o = .inl (some (.int x4)) ∧ St m2 ∧ ((x4 = 0 → V m12_many 17 [some (.ref 668), some (.int (v1 ||| 0)), some (.int v2), some (.int (v3 + 1))] [] m2 K) ∧ (¬ x4 = 0 → V m12_many 17 [some (.ref 668), some (.int (v1 ||| (1 <<< (v3 &&& 31)))), some (.int v2), some (.int (v3 + 1))] [] m2 K)))))) : V m12_many 17 [some (.ref 668), some (.int v1), some (.int v2), some (.int v3)] [] m K := by
  refine r_iload_n (y := m12_many) dX12_many_17 rfl rfl ?_
  refine r_aload_n (y := m12_many) dX12_many_18 rfl rfl ?_
  refine g_X12_151 (y := m12_many) rfl dX12_many_19 hm ?_
  refine r_icmp_ge (y := m12_many) (tgt := 50) dX12_many_22 (by decide) (fun hc1 => ?_) (fun hc1 => ?_)
  · have h := h.1 hc1
    refine r_iinc (y := m12_many) (v := (v2 + 1)) (L' := [some (.ref 668), some (.int v1), some (.int (v2 + 1)), some (.int v3)]) dX12_many_50 rfl (by rfl) rfl ?_
    refine r_goto (y := m12_many) (tgt := 9) dX12_many_53 (by decide) ?_
    exact h
  · have h := h.2 hc1
    refine r_iload_n (y := m12_many) dX12_many_25 rfl rfl ?_
    refine r_aload_n (y := m12_many) dX12_many_26 rfl rfl ?_
    refine r_iload_n (y := m12_many) dX12_many_27 rfl rfl ?_
    refine r_iload_n (y := m12_many) dX12_many_28 rfl rfl ?_
    refine r_callV (y := m12_many) (As := [(.int v3), (.int v1)]) (b := 668) (ci := 12) dX12_many_29 rfl k12_isMany lm_X12_217 rfl ⟨by decide, by decide⟩ (so_668 hm) (by decide) rfl (Nat.le_of_ble_eq_true rfl) (C.mono h ?_)
    rintro _ m2 ⟨x4, rfl, hm3, h⟩
    refine ⟨_, rfl, ?_⟩
    refine r_if_eq (y := m12_many) (tgt := 41) dX12_many_32 (by decide) (fun hc5 => ?_) (fun hc5 => ?_)
    · have h := h.1 hc5
      refine r_iconst (y := m12_many) (v := 0) dX12_many_41 (by decide) ?_
      refine r_ior (y := m12_many) dX12_many_42 ?_
      refine r_istore_n (y := m12_many) (L' := [some (.ref 668), some (.int (v1 ||| 0)), some (.int v2), some (.int v3)]) dX12_many_43 rfl (Nat.le_of_ble_eq_true rfl) rfl ?_
      refine r_iinc (y := m12_many) (v := (v3 + 1)) (L' := [some (.ref 668), some (.int (v1 ||| 0)), some (.int v2), some (.int (v3 + 1))]) dX12_many_44 rfl (by rfl) rfl ?_
      refine r_goto (y := m12_many) (tgt := 17) dX12_many_47 (by decide) ?_
      exact h
    · have h := h.2 hc5
      refine r_iconst (y := m12_many) (v := 1) dX12_many_35 (by decide) ?_
      refine r_iload_n (y := m12_many) dX12_many_36 rfl rfl ?_
      refine r_ishl (y := m12_many) dX12_many_37 ?_
      refine r_goto (y := m12_many) (tgt := 42) dX12_many_38 (by decide) ?_
      refine r_ior (y := m12_many) dX12_many_42 ?_
      refine r_istore_n (y := m12_many) (L' := [some (.ref 668), some (.int (v1 ||| (1 <<< (v3 &&& 31)))), some (.int v2), some (.int v3)]) dX12_many_43 rfl (Nat.le_of_ble_eq_true rfl) rfl ?_
      refine r_iinc (y := m12_many) (v := (v3 + 1)) (L' := [some (.ref 668), some (.int (v1 ||| (1 <<< (v3 &&& 31)))), some (.int v2), some (.int (v3 + 1))]) dX12_many_44 rfl (by rfl) rfl ?_
      refine r_goto (y := m12_many) (tgt := 17) dX12_many_47 (by decide) ?_
      exact h
set_option maxHeartbeats 4000000 in
set_option maxRecDepth 100000 in
theorem w12_goal {m : Mm} {K : Option Value ⊕ String → Mm → Prop} (hm : St m) {a0 : Int32}  (h : C m12_isNode [(.ref 668), (.int a0)] m (fun o m1 => ∃ x3 : Int32, o = .inl (some (.int x3)) ∧ St m1 ∧ ((x3 = 0 → (((1 : Int32) ≤ 0 → C m12_copies [(.ref 668), (.int a0), (.int 0)] (mSetI m1 668 12 1) (fun o m6 => o = .inl none ∧ St m6 ∧ vp_in a0 80 ∧ K (.inl (some (.int (mI m6 671 (Int32.toNatClampNeg a0))))) (mSetI (mSetI m6 668 11 1) 668 50 0))) ∧ (¬ (1 : Int32) ≤ 0 → K (.inl (some (.int 0))) (mSetI m1 668 12 1)))) ∧ (¬ x3 = 0 → (((0 : Int32) ≤ 0 → C m12_copies [(.ref 668), (.int a0), (.int 0)] (mSetI m1 668 12 0) (fun o m10 => o = .inl none ∧ St m10 ∧ vp_in a0 80 ∧ K (.inl (some (.int (mI m10 671 (Int32.toNatClampNeg a0))))) (mSetI (mSetI m10 668 11 1) 668 50 0))) ∧ (¬ (0 : Int32) ≤ 0 → K (.inl (some (.int 0))) (mSetI m1 668 12 0))))))) : V m12_goal 0 [some (.ref 668), some (.int a0)] [] m K := by
  refine r_aload_n (y := m12_goal) dX12_goal_0 rfl rfl ?_
  refine r_aload_n (y := m12_goal) dX12_goal_1 rfl rfl ?_
  refine r_iload_n (y := m12_goal) dX12_goal_2 rfl rfl ?_
  refine r_callV (y := m12_goal) (As := [(.int a0)]) (b := 668) (ci := 12) dX12_goal_3 rfl k12_isNode lm_X12_169 rfl ⟨by decide, by decide⟩ (so_668 hm) (by decide) rfl (Nat.le_of_ble_eq_true rfl) (C.mono h ?_)
  rintro _ m1 ⟨x3, rfl, hm2, h⟩
  refine ⟨_, rfl, ?_⟩
  refine r_if_eq (y := m12_goal) (tgt := 13) dX12_goal_6 (by decide) (fun hc4 => ?_) (fun hc4 => ?_)
  · have h := h.1 hc4
    refine r_iconst (y := m12_goal) (v := 1) dX12_goal_13 (by decide) ?_
    refine p_X12_147 (y := m12_goal) rfl dX12_goal_14 hm2 ?_
    refine r_aload_n (y := m12_goal) dX12_goal_17 rfl rfl ?_
    refine g_X12_147 (y := m12_goal) rfl dX12_goal_18 (St.i hm2) ?_
    refine V.top (b := 1) (by first | rfl | simp [mI_set, mI_setR]) ?_
    refine r_if_le (y := m12_goal) (tgt := 26) dX12_goal_21 (by decide) (fun hc5 => ?_) (fun hc5 => ?_)
    · have h := h.1 hc5
      refine r_aload_n (y := m12_goal) dX12_goal_26 rfl rfl ?_
      refine r_iload_n (y := m12_goal) dX12_goal_27 rfl rfl ?_
      refine r_iconst (y := m12_goal) (v := 0) dX12_goal_28 (by decide) ?_
      refine r_callV (y := m12_goal) (As := [(.int a0), (.int 0)]) (b := 668) (ci := 12) dX12_goal_29 rfl k12_copies lm_X12_197 rfl ⟨by decide, by decide⟩ (so_668 (St.i hm2)) (by decide) rfl (Nat.le_of_ble_eq_true rfl) (C.mono h ?_)
      rintro _ m6 ⟨rfl, hm7, h⟩
      refine ⟨none, rfl, ?_⟩
      refine r_aload_n (y := m12_goal) dX12_goal_32 rfl rfl ?_
      refine r_iconst (y := m12_goal) (v := 1) dX12_goal_33 (by decide) ?_
      refine p_X12_220 (y := m12_goal) rfl dX12_goal_34 hm7 ⟨by decide, by decide⟩ ?_
      refine r_aload_n (y := m12_goal) dX12_goal_37 rfl rfl ?_
      refine r_iconst (y := m12_goal) (v := 0) dX12_goal_38 (by decide) ?_
      refine p_X12_224 (y := m12_goal) rfl dX12_goal_39 (St.i hm7) ?_
      refine r_aload_n (y := m12_goal) dX12_goal_42 rfl rfl ?_
      refine g_X12_17 (y := m12_goal) rfl dX12_goal_43 (St.i (St.i hm7)) ?_
      refine r_iload_n (y := m12_goal) dX12_goal_46 rfl rfl ?_
      obtain ⟨hb8, h⟩ := h
      refine r_iald (y := m12_goal) (n := 80) dX12_goal_47 (sa_671 (St.i (St.i hm7))) hb8 ?_
      refine V.top (b := (mI m6 671 (Int32.toNatClampNeg a0))) (by first | rfl | simp [mI_set, mI_setR]) ?_
      exact r_iret (y := m12_goal) dX12_goal_48 rfl rfl h
    · have h := h.2 hc5
      refine r_iconst (y := m12_goal) (v := 0) dX12_goal_24 (by decide) ?_
      exact r_iret (y := m12_goal) dX12_goal_25 rfl rfl h
  · have h := h.2 hc4
    refine r_iconst (y := m12_goal) (v := 0) dX12_goal_9 (by decide) ?_
    refine r_goto (y := m12_goal) (tgt := 14) dX12_goal_10 (by decide) ?_
    refine p_X12_147 (y := m12_goal) rfl dX12_goal_14 hm2 ?_
    refine r_aload_n (y := m12_goal) dX12_goal_17 rfl rfl ?_
    refine g_X12_147 (y := m12_goal) rfl dX12_goal_18 (St.i hm2) ?_
    refine V.top (b := 0) (by first | rfl | simp [mI_set, mI_setR]) ?_
    refine r_if_le (y := m12_goal) (tgt := 26) dX12_goal_21 (by decide) (fun hc9 => ?_) (fun hc9 => ?_)
    · have h := h.1 hc9
      refine r_aload_n (y := m12_goal) dX12_goal_26 rfl rfl ?_
      refine r_iload_n (y := m12_goal) dX12_goal_27 rfl rfl ?_
      refine r_iconst (y := m12_goal) (v := 0) dX12_goal_28 (by decide) ?_
      refine r_callV (y := m12_goal) (As := [(.int a0), (.int 0)]) (b := 668) (ci := 12) dX12_goal_29 rfl k12_copies lm_X12_197 rfl ⟨by decide, by decide⟩ (so_668 (St.i hm2)) (by decide) rfl (Nat.le_of_ble_eq_true rfl) (C.mono h ?_)
      rintro _ m10 ⟨rfl, hm11, h⟩
      refine ⟨none, rfl, ?_⟩
      refine r_aload_n (y := m12_goal) dX12_goal_32 rfl rfl ?_
      refine r_iconst (y := m12_goal) (v := 1) dX12_goal_33 (by decide) ?_
      refine p_X12_220 (y := m12_goal) rfl dX12_goal_34 hm11 ⟨by decide, by decide⟩ ?_
      refine r_aload_n (y := m12_goal) dX12_goal_37 rfl rfl ?_
      refine r_iconst (y := m12_goal) (v := 0) dX12_goal_38 (by decide) ?_
      refine p_X12_224 (y := m12_goal) rfl dX12_goal_39 (St.i hm11) ?_
      refine r_aload_n (y := m12_goal) dX12_goal_42 rfl rfl ?_
      refine g_X12_17 (y := m12_goal) rfl dX12_goal_43 (St.i (St.i hm11)) ?_
      refine r_iload_n (y := m12_goal) dX12_goal_46 rfl rfl ?_
      obtain ⟨hb12, h⟩ := h
      refine r_iald (y := m12_goal) (n := 80) dX12_goal_47 (sa_671 (St.i (St.i hm11))) hb12 ?_
      refine V.top (b := (mI m10 671 (Int32.toNatClampNeg a0))) (by first | rfl | simp [mI_set, mI_setR]) ?_
      exact r_iret (y := m12_goal) dX12_goal_48 rfl rfl h
    · have h := h.2 hc9
      refine r_iconst (y := m12_goal) (v := 0) dX12_goal_24 (by decide) ?_
      exact r_iret (y := m12_goal) dX12_goal_25 rfl rfl h
set_option maxHeartbeats 4000000 in
set_option maxRecDepth 100000 in
theorem w12_newThing {m : Mm} {K : Option Value ⊕ String → Mm → Prop} (hm : St m) {a0 : Int32} {a1 : Int32} {a2 : Int32}  (h : vp_in (mI m 668 13) 6000 ∧ vp_in (mI m 668 13) 6000 ∧ vp_in (mI m 668 13) 6000 ∧ vp_in (mI m 668 13) 6000 ∧ vp_in (mI m 668 13) 6000 ∧ vp_in (mI m 668 13) 6000 ∧ K (.inl (some (.int (((mI m 668 13) + 1) - 1)))) (mSetI (mSetI (mSetI (mSetI (mSetI (mSetI (mSetI m 677 (Int32.toNatClampNeg (mI m 668 13)) a0) 678 (Int32.toNatClampNeg (mI m 668 13)) a1) 681 (Int32.toNatClampNeg (mI m 668 13)) a2) 679 (Int32.toNatClampNeg (mI m 668 13)) (-1)) 680 (Int32.toNatClampNeg (mI m 668 13)) (-1)) 684 (Int32.toNatClampNeg (mI m 668 13)) 0) 668 13 ((mI m 668 13) + 1))) : V m12_newThing 0 [some (.ref 668), some (.int a0), some (.int a1), some (.int a2)] [] m K := by
  refine r_aload_n (y := m12_newThing) dX12_newThing_0 rfl rfl ?_
  refine g_X12_35 (y := m12_newThing) rfl dX12_newThing_1 hm ?_
  refine r_aload_n (y := m12_newThing) dX12_newThing_4 rfl rfl ?_
  refine g_X12_227 (y := m12_newThing) rfl dX12_newThing_5 hm ?_
  refine r_iload_n (y := m12_newThing) dX12_newThing_8 rfl rfl ?_
  obtain ⟨hb1, h⟩ := h
  refine r_iast (y := m12_newThing) (n := 6000) dX12_newThing_9 (sa_677 hm) hb1 ?_
  refine r_aload_n (y := m12_newThing) dX12_newThing_10 rfl rfl ?_
  refine g_X12_38 (y := m12_newThing) rfl dX12_newThing_11 (St.i hm) ?_
  refine r_aload_n (y := m12_newThing) dX12_newThing_14 rfl rfl ?_
  refine g_X12_227 (y := m12_newThing) rfl dX12_newThing_15 (St.i hm) ?_
  refine V.top (b := (mI m 668 13)) (by first | rfl | simp [mI_set, mI_setR]) ?_
  refine r_iload_n (y := m12_newThing) dX12_newThing_18 rfl rfl ?_
  obtain ⟨hb2, h⟩ := h
  refine r_iast (y := m12_newThing) (n := 6000) dX12_newThing_19 (sa_678 (St.i hm)) hb2 ?_
  refine r_aload_n (y := m12_newThing) dX12_newThing_20 rfl rfl ?_
  refine g_X12_47 (y := m12_newThing) rfl dX12_newThing_21 (St.i (St.i hm)) ?_
  refine r_aload_n (y := m12_newThing) dX12_newThing_24 rfl rfl ?_
  refine g_X12_227 (y := m12_newThing) rfl dX12_newThing_25 (St.i (St.i hm)) ?_
  refine V.top (b := (mI m 668 13)) (by first | rfl | simp [mI_set, mI_setR]) ?_
  refine r_iload_n (y := m12_newThing) dX12_newThing_28 rfl rfl ?_
  obtain ⟨hb3, h⟩ := h
  refine r_iast (y := m12_newThing) (n := 6000) dX12_newThing_29 (sa_681 (St.i (St.i hm))) hb3 ?_
  refine r_aload_n (y := m12_newThing) dX12_newThing_30 rfl rfl ?_
  refine g_X12_41 (y := m12_newThing) rfl dX12_newThing_31 (St.i (St.i (St.i hm))) ?_
  refine r_aload_n (y := m12_newThing) dX12_newThing_34 rfl rfl ?_
  refine g_X12_227 (y := m12_newThing) rfl dX12_newThing_35 (St.i (St.i (St.i hm))) ?_
  refine V.top (b := (mI m 668 13)) (by first | rfl | simp [mI_set, mI_setR]) ?_
  refine r_iconst (y := m12_newThing) (v := (-1)) dX12_newThing_38 (by decide) ?_
  obtain ⟨hb4, h⟩ := h
  refine r_iast (y := m12_newThing) (n := 6000) dX12_newThing_39 (sa_679 (St.i (St.i (St.i hm)))) hb4 ?_
  refine r_aload_n (y := m12_newThing) dX12_newThing_40 rfl rfl ?_
  refine g_X12_44 (y := m12_newThing) rfl dX12_newThing_41 (St.i (St.i (St.i (St.i hm)))) ?_
  refine r_aload_n (y := m12_newThing) dX12_newThing_44 rfl rfl ?_
  refine g_X12_227 (y := m12_newThing) rfl dX12_newThing_45 (St.i (St.i (St.i (St.i hm)))) ?_
  refine V.top (b := (mI m 668 13)) (by first | rfl | simp [mI_set, mI_setR]) ?_
  refine r_iconst (y := m12_newThing) (v := (-1)) dX12_newThing_48 (by decide) ?_
  obtain ⟨hb5, h⟩ := h
  refine r_iast (y := m12_newThing) (n := 6000) dX12_newThing_49 (sa_680 (St.i (St.i (St.i (St.i hm))))) hb5 ?_
  refine r_aload_n (y := m12_newThing) dX12_newThing_50 rfl rfl ?_
  refine g_X12_56 (y := m12_newThing) rfl dX12_newThing_51 (St.i (St.i (St.i (St.i (St.i hm))))) ?_
  refine r_aload_n (y := m12_newThing) dX12_newThing_54 rfl rfl ?_
  refine g_X12_227 (y := m12_newThing) rfl dX12_newThing_55 (St.i (St.i (St.i (St.i (St.i hm))))) ?_
  refine V.top (b := (mI m 668 13)) (by first | rfl | simp [mI_set, mI_setR]) ?_
  refine r_iconst (y := m12_newThing) (v := 0) dX12_newThing_58 (by decide) ?_
  obtain ⟨hb6, h⟩ := h
  refine r_zast (y := m12_newThing) (n := 6000) dX12_newThing_59 (sa_684 (St.i (St.i (St.i (St.i (St.i hm)))))) hb6 (by decide) ?_
  refine r_aload_n (y := m12_newThing) dX12_newThing_60 rfl rfl ?_
  refine r_dup_r (y := m12_newThing) dX12_newThing_61 ?_
  refine g_X12_227 (y := m12_newThing) rfl dX12_newThing_62 (St.i (St.i (St.i (St.i (St.i (St.i hm)))))) ?_
  refine V.top (b := (mI m 668 13)) (by first | rfl | simp [mI_set, mI_setR]) ?_
  refine r_iconst (y := m12_newThing) (v := 1) dX12_newThing_65 (by decide) ?_
  refine r_iadd (y := m12_newThing) dX12_newThing_66 ?_
  refine p_X12_227 (y := m12_newThing) rfl dX12_newThing_67 (St.i (St.i (St.i (St.i (St.i (St.i hm)))))) ?_
  refine r_aload_n (y := m12_newThing) dX12_newThing_70 rfl rfl ?_
  refine g_X12_227 (y := m12_newThing) rfl dX12_newThing_71 (St.i (St.i (St.i (St.i (St.i (St.i (St.i hm))))))) ?_
  refine V.top (b := ((mI m 668 13) + 1)) (by first | rfl | simp [mI_set, mI_setR]) ?_
  refine r_iconst (y := m12_newThing) (v := 1) dX12_newThing_74 (by decide) ?_
  refine r_isub (y := m12_newThing) dX12_newThing_75 ?_
  exact r_iret (y := m12_newThing) dX12_newThing_76 rfl rfl h
set_option maxHeartbeats 4000000 in
set_option maxRecDepth 100000 in
theorem w12_root {m : Mm} {K : Option Value ⊕ String → Mm → Prop} (hm : St m) {a0 : Int32}  (h : V m12_root 2 [some (.ref 668), some (.int a0), some (.int a0)] [] m K) : V m12_root 0 [some (.ref 668), some (.int a0), none] [] m K := by
  refine r_iload_n (y := m12_root) dX12_root_0 rfl rfl ?_
  refine r_istore_n (y := m12_root) (L' := [some (.ref 668), some (.int a0), some (.int a0)]) dX12_root_1 rfl (Nat.le_of_ble_eq_true rfl) rfl ?_
  exact h
set_option maxHeartbeats 4000000 in
set_option maxRecDepth 100000 in
theorem w12_root_2 {m : Mm} {K : Option Value ⊕ String → Mm → Prop} (hm : St m) {v1 : Int32} {v2 : Int32}  (h : vp_in v2 6000 ∧ ((¬ (mI m 677 (Int32.toNatClampNeg v2)) = 7 → K (.inl (some (.int v2))) m) ∧ ((mI m 677 (Int32.toNatClampNeg v2)) = 7 → vp_in v2 6000 ∧ V m12_root 2 [some (.ref 668), some (.int v1), some (.int (mI m 679 (Int32.toNatClampNeg v2)))] [] m K))) : V m12_root 2 [some (.ref 668), some (.int v1), some (.int v2)] [] m K := by
  refine r_aload_n (y := m12_root) dX12_root_2 rfl rfl ?_
  refine g_X12_35 (y := m12_root) rfl dX12_root_3 hm ?_
  refine r_iload_n (y := m12_root) dX12_root_6 rfl rfl ?_
  obtain ⟨hb1, h⟩ := h
  refine r_iald (y := m12_root) (n := 6000) dX12_root_7 (sa_677 hm) hb1 ?_
  refine r_bipush (y := m12_root) (v := 7) dX12_root_8 (by decide) ?_
  refine r_icmp_ne (y := m12_root) (tgt := 23) dX12_root_10 (by decide) (fun hc2 => ?_) (fun hc2 => ?_)
  · have h := h.1 hc2
    refine r_iload_n (y := m12_root) dX12_root_23 rfl rfl ?_
    exact r_iret (y := m12_root) dX12_root_24 rfl rfl h
  · have h := h.2 hc2
    refine r_aload_n (y := m12_root) dX12_root_13 rfl rfl ?_
    refine g_X12_41 (y := m12_root) rfl dX12_root_14 hm ?_
    refine r_iload_n (y := m12_root) dX12_root_17 rfl rfl ?_
    obtain ⟨hb3, h⟩ := h
    refine r_iald (y := m12_root) (n := 6000) dX12_root_18 (sa_679 hm) hb3 ?_
    refine r_istore_n (y := m12_root) (L' := [some (.ref 668), some (.int v1), some (.int (mI m 679 (Int32.toNatClampNeg v2)))]) dX12_root_19 rfl (Nat.le_of_ble_eq_true rfl) rfl ?_
    refine r_goto (y := m12_root) (tgt := 2) dX12_root_20 (by decide) ?_
    exact h
set_option maxHeartbeats 4000000 in
set_option maxRecDepth 100000 in
theorem w12_become {m : Mm} {K : Option Value ⊕ String → Mm → Prop} (hm : St m) {a0 : Int32} {a1 : Int32}  (h : vp_in a0 6000 ∧ vp_in a0 6000 ∧ K (.inl none) (mSetI (mSetI m 677 (Int32.toNatClampNeg a0) 7) 679 (Int32.toNatClampNeg a0) a1)) : V m12_become 0 [some (.ref 668), some (.int a0), some (.int a1)] [] m K := by
  refine r_aload_n (y := m12_become) dX12_become_0 rfl rfl ?_
  refine g_X12_35 (y := m12_become) rfl dX12_become_1 hm ?_
  refine r_iload_n (y := m12_become) dX12_become_4 rfl rfl ?_
  refine r_bipush (y := m12_become) (v := 7) dX12_become_5 (by decide) ?_
  obtain ⟨hb1, h⟩ := h
  refine r_iast (y := m12_become) (n := 6000) dX12_become_7 (sa_677 hm) hb1 ?_
  refine r_aload_n (y := m12_become) dX12_become_8 rfl rfl ?_
  refine g_X12_41 (y := m12_become) rfl dX12_become_9 (St.i hm) ?_
  refine r_iload_n (y := m12_become) dX12_become_12 rfl rfl ?_
  refine r_iload_n (y := m12_become) dX12_become_13 rfl rfl ?_
  obtain ⟨hb2, h⟩ := h
  refine r_iast (y := m12_become) (n := 6000) dX12_become_14 (sa_679 (St.i hm)) hb2 ?_
  exact r_ret (y := m12_become) dX12_become_15 rfl h
set_option maxHeartbeats 4000000 in
set_option maxRecDepth 100000 in
theorem w12_becomeData {m : Mm} {K : Option Value ⊕ String → Mm → Prop} (hm : St m) {a0 : Int32} {a1 : Int32}  (h : vp_in a0 6000 ∧ vp_in a0 6000 ∧ vp_in a0 6000 ∧ vp_in a0 6000 ∧ K (.inl none) (mSetI (mSetI (mSetI (mSetI m 677 (Int32.toNatClampNeg a0) 1) 678 (Int32.toNatClampNeg a0) a1) 679 (Int32.toNatClampNeg a0) (-1)) 680 (Int32.toNatClampNeg a0) (-1))) : V m12_becomeData 0 [some (.ref 668), some (.int a0), some (.int a1)] [] m K := by
  refine r_aload_n (y := m12_becomeData) dX12_becomeData_0 rfl rfl ?_
  refine g_X12_35 (y := m12_becomeData) rfl dX12_becomeData_1 hm ?_
  refine r_iload_n (y := m12_becomeData) dX12_becomeData_4 rfl rfl ?_
  refine r_iconst (y := m12_becomeData) (v := 1) dX12_becomeData_5 (by decide) ?_
  obtain ⟨hb1, h⟩ := h
  refine r_iast (y := m12_becomeData) (n := 6000) dX12_becomeData_6 (sa_677 hm) hb1 ?_
  refine r_aload_n (y := m12_becomeData) dX12_becomeData_7 rfl rfl ?_
  refine g_X12_38 (y := m12_becomeData) rfl dX12_becomeData_8 (St.i hm) ?_
  refine r_iload_n (y := m12_becomeData) dX12_becomeData_11 rfl rfl ?_
  refine r_iload_n (y := m12_becomeData) dX12_becomeData_12 rfl rfl ?_
  obtain ⟨hb2, h⟩ := h
  refine r_iast (y := m12_becomeData) (n := 6000) dX12_becomeData_13 (sa_678 (St.i hm)) hb2 ?_
  refine r_aload_n (y := m12_becomeData) dX12_becomeData_14 rfl rfl ?_
  refine g_X12_41 (y := m12_becomeData) rfl dX12_becomeData_15 (St.i (St.i hm)) ?_
  refine r_iload_n (y := m12_becomeData) dX12_becomeData_18 rfl rfl ?_
  refine r_iconst (y := m12_becomeData) (v := (-1)) dX12_becomeData_19 (by decide) ?_
  obtain ⟨hb3, h⟩ := h
  refine r_iast (y := m12_becomeData) (n := 6000) dX12_becomeData_20 (sa_679 (St.i (St.i hm))) hb3 ?_
  refine r_aload_n (y := m12_becomeData) dX12_becomeData_21 rfl rfl ?_
  refine g_X12_44 (y := m12_becomeData) rfl dX12_becomeData_22 (St.i (St.i (St.i hm))) ?_
  refine r_iload_n (y := m12_becomeData) dX12_becomeData_25 rfl rfl ?_
  refine r_iconst (y := m12_becomeData) (v := (-1)) dX12_becomeData_26 (by decide) ?_
  obtain ⟨hb4, h⟩ := h
  refine r_iast (y := m12_becomeData) (n := 6000) dX12_becomeData_27 (sa_680 (St.i (St.i (St.i hm)))) hb4 ?_
  exact r_ret (y := m12_becomeData) dX12_becomeData_28 rfl h
set_option maxHeartbeats 4000000 in
set_option maxRecDepth 100000 in
theorem w12_newNames {m : Mm} {K : Option Value ⊕ String → Mm → Prop} (hm : St m)   (h : V m12_newNames 2 [some (.ref 668), some (.int 0)] [] m K) : V m12_newNames 0 [some (.ref 668), none] [] m K := by
  refine r_iconst (y := m12_newNames) (v := 0) dX12_newNames_0 (by decide) ?_
  refine r_istore_n (y := m12_newNames) (L' := [some (.ref 668), some (.int 0)]) dX12_newNames_1 rfl (Nat.le_of_ble_eq_true rfl) rfl ?_
  exact h
set_option maxHeartbeats 4000000 in
set_option maxRecDepth 100000 in
theorem w12_newNames_2 {m : Mm} {K : Option Value ⊕ String → Mm → Prop} (hm : St m) {v1 : Int32}  (h : ((6 ≤ v1 → K (.inl (some (.int (((mI m 668 22) + 1) - 1)))) (mSetI m 668 22 ((mI m 668 22) + 1))) ∧ (¬ 6 ≤ v1 → vp_in ((6 * (mI m 668 22)) + v1) 1200 ∧ V m12_newNames 2 [some (.ref 668), some (.int (v1 + 1))] [] (mSetI m 685 (Int32.toNatClampNeg ((6 * (mI m 668 22)) + v1)) (-1)) K))) : V m12_newNames 2 [some (.ref 668), some (.int v1)] [] m K := by
  refine r_iload_n (y := m12_newNames) dX12_newNames_2 rfl rfl ?_
  refine r_bipush (y := m12_newNames) (v := 6) dX12_newNames_3 (by decide) ?_
  refine r_icmp_ge (y := m12_newNames) (tgt := 29) dX12_newNames_5 (by decide) (fun hc1 => ?_) (fun hc1 => ?_)
  · have h := h.1 hc1
    refine r_aload_n (y := m12_newNames) dX12_newNames_29 rfl rfl ?_
    refine r_dup_r (y := m12_newNames) dX12_newNames_30 ?_
    refine g_X12_230 (y := m12_newNames) rfl dX12_newNames_31 hm ?_
    refine r_iconst (y := m12_newNames) (v := 1) dX12_newNames_34 (by decide) ?_
    refine r_iadd (y := m12_newNames) dX12_newNames_35 ?_
    refine p_X12_230 (y := m12_newNames) rfl dX12_newNames_36 hm ?_
    refine r_aload_n (y := m12_newNames) dX12_newNames_39 rfl rfl ?_
    refine g_X12_230 (y := m12_newNames) rfl dX12_newNames_40 (St.i hm) ?_
    refine V.top (b := ((mI m 668 22) + 1)) (by first | rfl | simp [mI_set, mI_setR]) ?_
    refine r_iconst (y := m12_newNames) (v := 1) dX12_newNames_43 (by decide) ?_
    refine r_isub (y := m12_newNames) dX12_newNames_44 ?_
    exact r_iret (y := m12_newNames) dX12_newNames_45 rfl rfl h
  · have h := h.2 hc1
    refine r_aload_n (y := m12_newNames) dX12_newNames_8 rfl rfl ?_
    refine g_X12_59 (y := m12_newNames) rfl dX12_newNames_9 hm ?_
    refine r_bipush (y := m12_newNames) (v := 6) dX12_newNames_12 (by decide) ?_
    refine r_aload_n (y := m12_newNames) dX12_newNames_14 rfl rfl ?_
    refine g_X12_230 (y := m12_newNames) rfl dX12_newNames_15 hm ?_
    refine r_imul (y := m12_newNames) dX12_newNames_18 ?_
    refine r_iload_n (y := m12_newNames) dX12_newNames_19 rfl rfl ?_
    refine r_iadd (y := m12_newNames) dX12_newNames_20 ?_
    refine r_iconst (y := m12_newNames) (v := (-1)) dX12_newNames_21 (by decide) ?_
    obtain ⟨hb2, h⟩ := h
    refine r_iast (y := m12_newNames) (n := 1200) dX12_newNames_22 (sa_685 hm) hb2 ?_
    refine r_iinc (y := m12_newNames) (v := (v1 + 1)) (L' := [some (.ref 668), some (.int (v1 + 1))]) dX12_newNames_23 rfl (by rfl) rfl ?_
    refine r_goto (y := m12_newNames) (tgt := 2) dX12_newNames_26 (by decide) ?_
    exact h
set_option maxHeartbeats 4000000 in
set_option maxRecDepth 100000 in
theorem w12_opens {m : Mm} {K : Option Value ⊕ String → Mm → Prop} (hm : St m) {a0 : Int32} {a1 : Int32} {a2 : Int32}  (h : C m12_namesAt [(.ref 668), (.int a0)] m (fun o m1 => ∃ x3 : Int32, o = .inl (some (.int x3)) ∧ St m1 ∧ V m12_opens 10 [some (.ref 668), some (.int a0), some (.int a1), some (.int a2), some (.int x3), some (.int 0)] [] m1 K)) : V m12_opens 0 [some (.ref 668), some (.int a0), some (.int a1), some (.int a2), none, none] [] m K := by
  refine r_aload_n (y := m12_opens) dX12_opens_0 rfl rfl ?_
  refine r_iload_n (y := m12_opens) dX12_opens_1 rfl rfl ?_
  refine r_callV (y := m12_opens) (As := [(.int a0)]) (b := 668) (ci := 12) dX12_opens_2 rfl k12_namesAt lm_X12_208 rfl ⟨by decide, by decide⟩ (so_668 hm) (by decide) rfl (Nat.le_of_ble_eq_true rfl) (C.mono h ?_)
  rintro _ m1 ⟨x3, rfl, hm2, h⟩
  refine ⟨_, rfl, ?_⟩
  refine r_istore (y := m12_opens) (L' := [some (.ref 668), some (.int a0), some (.int a1), some (.int a2), some (.int x3), none]) dX12_opens_5 (Nat.le_of_ble_eq_true rfl) rfl ?_
  refine r_iconst (y := m12_opens) (v := 0) dX12_opens_7 (by decide) ?_
  refine r_istore (y := m12_opens) (L' := [some (.ref 668), some (.int a0), some (.int a1), some (.int a2), some (.int x3), some (.int 0)]) dX12_opens_8 (Nat.le_of_ble_eq_true rfl) rfl ?_
  exact h
set_option maxHeartbeats 4000000 in
set_option maxRecDepth 100000 in
theorem w12_opens_10 {m : Mm} {K : Option Value ⊕ String → Mm → Prop} (hm : St m) {v1 : Int32} {v2 : Int32} {v3 : Int32} {v4 : Int32} {v5 : Int32}  (h : ((6 ≤ v5 → K (.inl none) m) ∧ (¬ 6 ≤ v5 → ((¬ ((v4 >>> (v5 &&& 31)) &&& 1) = 1 → V m12_opens 10 [some (.ref 668), some (.int v1), some (.int v2), some (.int v3), some (.int v4), some (.int (v5 + 1))] [] m K) ∧ (((v4 >>> (v5 &&& 31)) &&& 1) = 1 → vp_in ((6 * v2) + v5) 1200 ∧ ((¬ (mI m 685 (Int32.toNatClampNeg ((6 * v2) + v5))) = (-1) → V m12_opens 10 [some (.ref 668), some (.int v1), some (.int v2), some (.int v3), some (.int v4), some (.int (v5 + 1))] [] m K) ∧ ((mI m 685 (Int32.toNatClampNeg ((6 * v2) + v5))) = (-1) → C m12_newThing [(.ref 668), (.int 0), (.int 0), (.int v3)] m (fun o m5 => ∃ x7 : Int32, o = .inl (some (.int x7)) ∧ St m5 ∧ vp_in ((6 * v2) + v5) 1200 ∧ V m12_opens 10 [some (.ref 668), some (.int v1), some (.int v2), some (.int v3), some (.int v4), some (.int (v5 + 1))] [] (mSetI m5 685 (Int32.toNatClampNeg ((6 * v2) + v5)) x7) K)))))))) : V m12_opens 10 [some (.ref 668), some (.int v1), some (.int v2), some (.int v3), some (.int v4), some (.int v5)] [] m K := by
  refine r_iload (y := m12_opens) dX12_opens_10 rfl ?_
  refine r_bipush (y := m12_opens) (v := 6) dX12_opens_12 (by decide) ?_
  refine r_icmp_ge (y := m12_opens) (tgt := 69) dX12_opens_14 (by decide) (fun hc1 => ?_) (fun hc1 => ?_)
  · have h := h.1 hc1
    exact r_ret (y := m12_opens) dX12_opens_69 rfl h
  · have h := h.2 hc1
    refine r_iload (y := m12_opens) dX12_opens_17 rfl ?_
    refine r_iload (y := m12_opens) dX12_opens_19 rfl ?_
    refine r_ishr (y := m12_opens) dX12_opens_21 ?_
    refine r_iconst (y := m12_opens) (v := 1) dX12_opens_22 (by decide) ?_
    refine r_iand (y := m12_opens) dX12_opens_23 ?_
    refine r_iconst (y := m12_opens) (v := 1) dX12_opens_24 (by decide) ?_
    refine r_icmp_ne (y := m12_opens) (tgt := 63) dX12_opens_25 (by decide) (fun hc2 => ?_) (fun hc2 => ?_)
    · have h := h.1 hc2
      refine r_iinc (y := m12_opens) (v := (v5 + 1)) (L' := [some (.ref 668), some (.int v1), some (.int v2), some (.int v3), some (.int v4), some (.int (v5 + 1))]) dX12_opens_63 rfl (by rfl) rfl ?_
      refine r_goto (y := m12_opens) (tgt := 10) dX12_opens_66 (by decide) ?_
      exact h
    · have h := h.2 hc2
      refine r_aload_n (y := m12_opens) dX12_opens_28 rfl rfl ?_
      refine g_X12_59 (y := m12_opens) rfl dX12_opens_29 hm ?_
      refine r_bipush (y := m12_opens) (v := 6) dX12_opens_32 (by decide) ?_
      refine r_iload_n (y := m12_opens) dX12_opens_34 rfl rfl ?_
      refine r_imul (y := m12_opens) dX12_opens_35 ?_
      refine r_iload (y := m12_opens) dX12_opens_36 rfl ?_
      refine r_iadd (y := m12_opens) dX12_opens_38 ?_
      obtain ⟨hb3, h⟩ := h
      refine r_iald (y := m12_opens) (n := 1200) dX12_opens_39 (sa_685 hm) hb3 ?_
      refine r_iconst (y := m12_opens) (v := (-1)) dX12_opens_40 (by decide) ?_
      refine r_icmp_ne (y := m12_opens) (tgt := 63) dX12_opens_41 (by decide) (fun hc4 => ?_) (fun hc4 => ?_)
      · have h := h.1 hc4
        refine r_iinc (y := m12_opens) (v := (v5 + 1)) (L' := [some (.ref 668), some (.int v1), some (.int v2), some (.int v3), some (.int v4), some (.int (v5 + 1))]) dX12_opens_63 rfl (by rfl) rfl ?_
        refine r_goto (y := m12_opens) (tgt := 10) dX12_opens_66 (by decide) ?_
        exact h
      · have h := h.2 hc4
        refine r_aload_n (y := m12_opens) dX12_opens_44 rfl rfl ?_
        refine g_X12_59 (y := m12_opens) rfl dX12_opens_45 hm ?_
        refine r_bipush (y := m12_opens) (v := 6) dX12_opens_48 (by decide) ?_
        refine r_iload_n (y := m12_opens) dX12_opens_50 rfl rfl ?_
        refine r_imul (y := m12_opens) dX12_opens_51 ?_
        refine r_iload (y := m12_opens) dX12_opens_52 rfl ?_
        refine r_iadd (y := m12_opens) dX12_opens_54 ?_
        refine r_aload_n (y := m12_opens) dX12_opens_55 rfl rfl ?_
        refine r_iconst (y := m12_opens) (v := 0) dX12_opens_56 (by decide) ?_
        refine r_iconst (y := m12_opens) (v := 0) dX12_opens_57 (by decide) ?_
        refine r_iload_n (y := m12_opens) dX12_opens_58 rfl rfl ?_
        refine r_callV (y := m12_opens) (As := [(.int 0), (.int 0), (.int v3)]) (b := 668) (ci := 12) dX12_opens_59 rfl k12_newThing lm_X12_233 rfl ⟨by decide, by decide⟩ (so_668 hm) (by decide) rfl (Nat.le_of_ble_eq_true rfl) (C.mono h ?_)
        rintro _ m5 ⟨x7, rfl, hm6, h⟩
        refine ⟨_, rfl, ?_⟩
        obtain ⟨hb8, h⟩ := h
        refine r_iast (y := m12_opens) (n := 1200) dX12_opens_62 (sa_685 hm6) hb8 ?_
        refine r_iinc (y := m12_opens) (v := (v5 + 1)) (L' := [some (.ref 668), some (.int v1), some (.int v2), some (.int v3), some (.int v4), some (.int (v5 + 1))]) dX12_opens_63 rfl (by rfl) rfl ?_
        refine r_goto (y := m12_opens) (tgt := 10) dX12_opens_66 (by decide) ?_
        exact h
